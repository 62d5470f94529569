import java.util.ArrayList;
import java.util.List;

/** The boundary cases of the text and its statements: the terms, and the promises 8 to 10. */
final class StatementBoundaries extends Boundaries {
    private static final String DIGITS = "0123456789";
    private static final String SIXTY = "+0:10;+0:11;+0:12;+0:13;+0:14;+0:15;-0:10;-0:11;-0:12;-0:13;";

    /** The beginnings of texts, each with the characters that may follow. */
    private static final String[][] NEXT = {
        {"", "+-@"}, {"+", "012345"}, {"-", "012345"}, {"@", "012345"}, {"+0", ":"}, {"-5", ":"}, {"@3", ":"},
        {"+0:", DIGITS}, {"-0:", DIGITS}, {"@0:", DIGITS},
        {"+0:0", "=;"}, {"+0:1", DIGITS + "=;"}, {"+0:9", DIGITS + "=;"}, {"+0:10", "=;"}, {"+0:99", "=;"},
        {"-0:0", ";"}, {"-0:1", DIGITS + ";"}, {"-0:9", DIGITS + ";"}, {"-0:10", ";"}, {"-0:99", ";"},
        {"@0:0", "."}, {"@0:1", DIGITS + "."}, {"@0:9", DIGITS + "."}, {"@0:10", "."}, {"@0:99", "."},
        {"+0:0=", DIGITS + "n"}, {"+0:0=n", ",;"}, {"+0:0=0", ",;"}, {"+0:0=1", DIGITS + ",;"},
        {"+0:0=9", DIGITS + ",;"}, {"+0:0=10", ",;"}, {"+0:0=99", ",;"},
        {"+0:0=0,", DIGITS + "n"}, {"+0:0=n,n", ";"}, {"+0:0=n,0", ";"}, {"+0:0=n,1", DIGITS + ";"},
        {"+0:0=n,9", DIGITS + ";"}, {"+0:0=n,10", ";"}, {"+0:0=n,99", ";"},
        {"@0:0.", "01"}, {"@0:0.0", "="}, {"@0:0.1", "="}, {"@0:0.0=", DIGITS + "n"}, {"@0:0.0=n", ";"},
        {"@0:0.0=0", ";"}, {"@0:0.0=1", DIGITS + ";"}, {"@0:0.0=9", DIGITS + ";"}, {"@0:0.0=10", ";"},
        {"@0:0.0=99", ";"}, {"+0:0;", "+-@"}, {"+0:0=n,n;", "+-@"}, {"-0:10;", "+-@"}, {"@0:0.1=n;", "+-@"},
    };

    StatementBoundaries(Check check) {
        super(check);
    }

    /** All of 0 to 255, and some that are greater: digits of other writings, and the greatest. */
    private static List<Character> characters() {
        List<Character> characters = new ArrayList<>();
        for (char character = 0; character < 256; character++) {
            characters.add(character);
        }
        for (int more : new int[] {256, 304, 314, 315, 366, 0x660, 0x2b00, 0xff10, 0xff1a, 0xffff}) {
            characters.add((char) more);
        }
        return characters;
    }

    private static SpreadingDeletes with(String text) {
        SpreadingDeletes x = new SpreadingDeletes();
        for (char character : text.toCharArray()) {
            x.type(character);
        }
        return x;
    }

    @Holds("Terms, statements: There is a text of at most 60 characters, empty at first")
    void sixtyCharacters() {
        Run run = run();
        run.still("empty", 0, x -> x.total(8));
        run.still("empty for perform", -100, SpreadingDeletes::perform);
        for (int number = 1; number <= 60; number++) {
            char character = SIXTY.charAt(number - 1);
            run.answers("character " + number, number, x -> x.type(character));
        }
        run.still("one more", FULL, x -> x.type('-'));
        run.still("sixty", 60, x -> x.total(8));
        run.still("ends too early", -160, SpreadingDeletes::perform);
        Run last = filled(1).text(SIXTY.substring(0, 54) + "-0:0;-");
        last.still("the last character is read", -160, SpreadingDeletes::perform);
        filled(1).text(SIXTY.substring(0, 53) + ";@0:0.0").still("sixty, all of them", -160, SpreadingDeletes::perform);
        String full = "+0:1;+0:2;+0:3;+0:4;+0:5;+0:6;+0:7;+0:8;+0:9;-0:1;-0:2;-0:30";
        Run sixty = filled(1).make(x -> x.insert(0, 30, -1, -1)).text(full);
        sixty.still("its length", 60, x -> x.total(8));
        sixty.changes("sixty characters are performed", 12, SpreadingDeletes::perform);
        sixty.still("up to the last one", 9 - 2 + 1, x -> x.rows(0));
    }

    @Holds("Terms, statements: It is a list of one or more statements with \";\" between two: \"+\", a table, \":\" and a key, "
            + "and then perhaps \"=\" and a value, and behind such a value perhaps \",\" and another value (insert; values "
            + "that are left out are null); \"-\", a table, \":\" and a key (delete); \"@\", a table, \":\", a key, \".\" and "
            + "a column (0 or 1), \"=\" and a value (update)")
    void formsOfStatements() {
        Run run = tables(2).make(x -> x.addReference(1, 0, SET_NULL, false, -1),
                x -> x.addReference(1, 1, CASCADE, false, -1), x -> x.insert(0, 5, -1, -1), x -> x.insert(1, 6, 5, 6));
        performs(run, "+1:7", x -> x.insert(1, 7, -1, -1));
        performs(run, "+1:7=5", x -> x.insert(1, 7, 5, -1));
        performs(run, "+1:7=n", x -> x.insert(1, 7, -1, -1));
        performs(run, "+1:7=5,6", x -> x.insert(1, 7, 5, 6));
        performs(run, "+1:7=n,7", x -> x.insert(1, 7, -1, 7));
        performs(run, "+1:7=5,n", x -> x.insert(1, 7, 5, -1));
        performs(run, "-0:5", x -> x.delete(0, 5));
        performs(run, "@1:6.0=n", x -> x.update(1, 6, 0, -1));
        performs(run, "@1:6.1=n", x -> x.update(1, 6, 1, -1));
        performs(run, "+1:7=5,6;-0:5", x -> x.insert(1, 7, 5, 6), x -> x.delete(0, 5));
        performs(run, "+1:7=5,6;+1:8=5", x -> x.insert(1, 7, 5, 6), x -> x.insert(1, 8, 5, -1));
        performs(run, "+1:7=5,6;+1:8", x -> x.insert(1, 7, 5, 6), x -> x.insert(1, 8, -1, -1));
        performs(run, "@1:6.0=5;+1:8=n,6;@1:6.0=n;+1:9=5", x -> x.insert(1, 8, -1, 6), x -> x.update(1, 6, 0, -1),
                x -> x.insert(1, 9, 5, -1));
        performs(run, "-1:6;+1:6=5;@1:6.1=6", x -> x.delete(1, 6), x -> x.insert(1, 6, 5, -1), x -> x.update(1, 6, 1, 6));
    }

    private static void performs(Run run, String text, Player.Call... calls) {
        int statements = text.split(";").length;
        Run other = run.text(text).changes(text, statements, SpreadingDeletes::perform);
        other.leadsTo(text, run.copy().make(calls));
    }

    @Holds("Terms, statements: A table is a digit from 0 to 5; a key is a number from 0 to 99 without zeros ahead of other "
            + "digits; a value is a key, or \"n\" for null")
    void tablesKeysAndValues() {
        Run run = tables(6).make(x -> x.addReference(5, 0, SET_NULL, false, -1), x -> x.insert(0, 0, -1, -1),
                x -> x.insert(0, 9, -1, -1), x -> x.insert(0, 10, -1, -1), x -> x.insert(0, 99, -1, -1));
        performs(run, "+5:0", x -> x.insert(5, 0, -1, -1));
        performs(run, "+5:9", x -> x.insert(5, 9, -1, -1));
        performs(run, "+5:10", x -> x.insert(5, 10, -1, -1));
        performs(run, "+5:99", x -> x.insert(5, 99, -1, -1));
        performs(run, "+5:3=0", x -> x.insert(5, 3, 0, -1));
        performs(run, "+5:3=9", x -> x.insert(5, 3, 9, -1));
        performs(run, "+5:3=10", x -> x.insert(5, 3, 10, -1));
        performs(run, "+5:3=99", x -> x.insert(5, 3, 99, -1));
        performs(run, "+5:3=n", x -> x.insert(5, 3, -1, -1));
        performs(run, "-0:0", x -> x.delete(0, 0));
        performs(run, "-0:99", x -> x.delete(0, 99));
        fault(run, "+|6:0");
        fault(run, "-|/:0");
        fault(run, "+5:0|0");
        fault(run, "+5:0|9");
        fault(run, "+5:10|0");
        fault(run, "+5:|-1");
        fault(run, "+5:|n");
        fault(run, "+5:3=0|0");
        fault(run, "+5:3=10|0");
        fault(run, "+5:3=|-1");
        fault(run, "+5:3=|N");
        fault(run, "+5:3=n|n");
    }

    /** The mark stands ahead of the character that is not allowed, or at the end of the text. */
    private static void fault(Run run, String marked) {
        String text = marked.replace("|", "");
        run.text(text).still("«" + marked + "»", -100 - marked.indexOf('|'), SpreadingDeletes::perform);
    }

    @Holds("Terms, statements: The fault of the text is the index, from 0, of the first character that is not allowed at its "
            + "place, or the length of the text if it ends too early (the empty text does)")
    void faults() {
        for (String[] next : NEXT) {
            for (char character : characters()) {
                int fault = -100 - next[0].length();
                String text = next[0] + character;
                boolean isFault = with(text).perform() == fault;
                check().holds("«" + text + "» (the last one is " + (int) character + ") answered "
                        + with(text).perform(), isFault == (next[1].indexOf(character) < 0));
            }
        }
        for (String[] next : NEXT) {
            String begun = next[0];
            boolean mayEnd = next[1].indexOf(';') >= 0;
            check().holds("«" + begun + "» ends here, and answered " + with(begun).perform(),
                    (with(begun).perform() == -100 - begun.length()) != mayEnd);
        }
        Run run = busy();
        fault(run, "|");
        fault(run, "|;");
        fault(run, "|;+0:8");
        fault(run, "+0:8;|;-0:8");
        fault(run, "+0:8;|");
        fault(run, "+0:8;|x+0:9");
        fault(run, "+0:8;-0:8;@|6");
    }

    @Holds("Promise 8: Appends a character to the text")
    void aCharacterIsAppended() {
        Run run = busy();
        run.text("").make(x -> x.type('+'), x -> x.type('0')).still("behind the last", -102, SpreadingDeletes::perform);
        Run more = busy().answers("one more", 10, x -> x.type('1'));
        more.still("the number has become longer", UNKNOWN, SpreadingDeletes::perform);
        more.answers("one more", 11, x -> x.type('1'));
        more.still("now too long", -110, SpreadingDeletes::perform);
        more.still("no change", 4, x -> x.total(7));
        more.leadsTo("the state stays", busy());
        run.make(x -> x.type(';'), SpreadingDeletes::undo);
        run.still("undo leaves the text", 10, x -> x.total(8));
    }

    @Holds("Promise 8: `character`: any character")
    void anyCharacter() {
        for (char character : characters()) {
            Run run = run().answers("character " + (int) character, 1, x -> x.type(character));
            run.answers("again", 2, x -> x.type(character));
            run.answers("a fault at the first or the second", "+-@".indexOf(character) < 0 ? -100 : -101,
                    SpreadingDeletes::perform);
        }
        Run kept = run().make(x -> x.type('\0'), x -> x.type('\uffff'), x -> x.type('\ud800'));
        kept.still("three", 3, x -> x.total(8));
    }

    @Holds("Promise 8: Returns the length of the text then")
    void typeTellsTheLength() {
        Run run = run();
        for (int number = 1; number <= 60; number++) {
            run.answers("character " + number, number, x -> x.type(' '));
        }
        run.make(SpreadingDeletes::clearText);
        run.answers("the first again", 1, x -> x.type(' '));
        run.answers("the second again", 2, x -> x.type(' '));
    }

    @Holds("Promise 8: FULL if it has 60 characters")
    void noRoomForACharacter() {
        Run run = tables(1).text(SIXTY.substring(0, 58) + "0");
        run.answers("the sixtieth", 60, x -> x.type(';'));
        for (char character : new char[] {'+', ';', ' ', 0, 0xffff}) {
            run.still("one more, " + (int) character, FULL, x -> x.type(character));
        }
        run.answers("cleared", 60, SpreadingDeletes::clearText);
        run.answers("room again", 1, x -> x.type('+'));
    }

    @Holds("Promise 9: Empties the text")
    void theTextIsEmptied() {
        Run run = busy().make(SpreadingDeletes::clearText);
        run.still("its length", 0, x -> x.total(8));
        run.still("ends too early", -100, SpreadingDeletes::perform);
        run.still("no change", 4, x -> x.total(7));
        run.leadsTo("the state stays", busy());
        run.make(SpreadingDeletes::undo);
        run.still("undo does not bring it back", 0, x -> x.total(8));
        run.make(x -> x.type('-'), x -> x.type('0'));
        run.still("what was there does not come back", -102, SpreadingDeletes::perform);
    }

    @Holds("Promise 9: Returns the length that it had")
    void clearTextTellsTheLength() {
        run().still("empty", 0, SpreadingDeletes::clearText);
        for (int length : new int[] {1, 2, 59, 60}) {
            Run run = run().text(SIXTY.substring(0, length));
            run.answers("of " + length, length, SpreadingDeletes::clearText);
            run.still("empty now", 0, SpreadingDeletes::clearText);
        }
        Run full = run().text(SIXTY);
        full.still("refused", FULL, x -> x.type('x'));
        full.answers("a refused character does not count", 60, SpreadingDeletes::clearText);
    }

    @Holds("Promise 10: Carries out the statements of the text, which stays, one after the other: all of them, or none if one "
            + "of them returns an error")
    void allStatementsOrNone() {
        Run run = busy().text("+0:8;-0:2;@1:3.1=n;+0:9").changes("all", 4, SpreadingDeletes::perform);
        run.still("the text stays", 23, x -> x.total(8));
        run.leadsTo("one after the other", busy().make(x -> x.insert(0, 8, -1, -1), x -> x.delete(0, 2),
                x -> x.update(1, 3, 1, -1), x -> x.insert(0, 9, -1, -1)));
        run.still("the same text again", DUPLICATE, SpreadingDeletes::perform);
        String[] failing = {"+5:8", "-0:8;+0:8", "+0:8;-0:2;@1:3.1=n;-0:1", "+0:8;+0:8", "-0:2;-0:2", "-1:3;@1:3.0=1",
            "+0:8;-0:8;+0:2", "-1:3;-1:4;-0:1;-0:2;+0:1;+1:3=2"};
        int[] errors = {UNKNOWN, UNKNOWN, NOT_POSSIBLE, DUPLICATE, UNKNOWN, UNKNOWN, DUPLICATE, NO_PARENT};
        for (int place = 0; place < failing.length; place++) {
            busy().text(failing[place]).still(failing[place], errors[place], SpreadingDeletes::perform);
        }
        // Behind a failing text everything goes on as if it had not been performed.
        Run after = busy().text("+0:8;-0:2;-0:1").answers("fails", NOT_POSSIBLE, SpreadingDeletes::perform);
        after.changes("a row that it would have inserted", 3, x -> x.insert(0, 8, -1, -1));
        after.changes("a row that it would have deleted", 1, x -> x.delete(0, 2));
    }

    @Holds("Promise 10: (A statement that returns NONE does nothing, and is no error.) This is one change (also if each "
            + "statement returns NONE)")
    void oneChange() {
        Run none = busy().text("@1:3.0=1").changes("NONE alone", 1, SpreadingDeletes::perform);
        none.leadsTo("does nothing", busy());
        Run twice = busy().text("@1:3.0=1;@1:3.1=4").changes("NONE twice", 2, SpreadingDeletes::perform);
        twice.leadsTo("does nothing", busy());
        Run mixed = busy().text("@1:3.0=1;+0:8;@1:3.0=1").changes("NONE and others", 3, SpreadingDeletes::perform);
        mixed.leadsTo("the other one alone", busy().make(x -> x.insert(0, 8, -1, -1)));
        Run many = tables(1).text("+0:1;+0:2;+0:3;+0:4;+0:5;+0:6;+0:7").changes("seven", 7, SpreadingDeletes::perform);
        many.still("two states", 2, x -> x.total(7));
        many.answers("undone at once", 1, SpreadingDeletes::undo);
        many.still("no row is left", 0, x -> x.rows(0));
        busy().text("@1:3.0=1;-0:1").still("NONE ahead of an error", NOT_POSSIBLE, SpreadingDeletes::perform);
    }

    @Holds("Promise 10: Returns how many statements the text has")
    void performTellsTheStatements() {
        StringBuilder text = new StringBuilder();
        for (int count = 1; count <= 12; count++) {
            text.append(count == 1 ? "" : ";").append(count % 2 == 1 ? "+0:1" : "-0:1");
            tables(1).text(text.toString()).changes("statements", count, SpreadingDeletes::perform);
        }
        busy().text("-0:2;@1:4.0=1").changes("NONE counts, too", 2, SpreadingDeletes::perform);
        pair(CASCADE, false, -1).make(x -> x.insert(1, 3, 1, -1)).text("-0:1").changes("not the rows", 1,
                SpreadingDeletes::perform);
    }

    @Holds("Promise 10: -100 minus the fault of the text if it has one (this is an error)")
    void performOfAFault() {
        Run run = busy();
        fault(run, "|");
        fault(run, "|x");
        fault(run, "+0:8|+0:9");
        fault(run, "+0:8;-0:2;-|6:1");
        fault(run, "+0:8;-0:2;|");
        fault(run, SIXTY.substring(0, 59) + "|!");
        fault(run, SIXTY + "|");
        fault(run, "+5:0;+0:0|0");
    }

    @Holds("Promise 10: otherwise the error of the first statement that returns one")
    void theFirstError() {
        String[] texts = {"+2:1", "-0:3", "@0:1.0=n", "@1:3.1=n;@1:9.1=n", "+0:8=1", "+0:8=n,1", "+0:1", "+1:8", "+1:8=9",
            "@1:3.0=n", "@1:3.0=9", "-0:1", "+0:8;+1:9;-0:1", "+0:8;-0:1;+1:9", "@1:3.0=1;+0:1;-0:1"};
        int[] errors = {UNKNOWN, UNKNOWN, UNKNOWN, UNKNOWN, OUT_OF_RANGE, OUT_OF_RANGE, DUPLICATE, REQUIRED, NO_PARENT,
            REQUIRED, NO_PARENT, NOT_POSSIBLE, REQUIRED, NOT_POSSIBLE, DUPLICATE};
        for (int place = 0; place < texts.length; place++) {
            busy().text(texts[place]).still(texts[place], errors[place], SpreadingDeletes::perform);
        }
        filled(19).text("+0:20;+0:21").still("the second one finds no room", FULL, SpreadingDeletes::perform);
        filled(19).text("+0:20;-0:0;+0:21").changes("room by the second one", 3, SpreadingDeletes::perform);
        busy().text("+5:1;+0:01").still("a fault goes ahead of an error", -109, SpreadingDeletes::perform);
    }
}
