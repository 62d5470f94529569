import java.util.Arrays;
import java.util.stream.IntStream;

/** What the tests of the boundary cases share: stores to begin with, and numbers far off. */
abstract class Boundaries extends Numbers {
    // Among these are numbers that fall among the small ones when they are cut to 8 or 16 bits, or
    // when they are multiplied by 2, 6, 12, 20, 40 or 100, as one does with numbers of tables.
    private static final int[] FAR = {Integer.MIN_VALUE, Integer.MIN_VALUE + 1, -1000, -256, -255, -100, -20, -2,
        200, 256, 257, 65536, 65537, 42949673, 107374183, 214748365, 357913942, 715827883, 1 << 30,
        Integer.MAX_VALUE};

    private final Check check;

    Boundaries(Check check) {
        this.check = check;
    }

    /** The numbers next to a range, and numbers far off that are not in it. */
    static int[] outside(int least, int greatest) {
        IntStream far = Arrays.stream(FAR).filter(number -> number < least || number > greatest);
        return IntStream.concat(IntStream.of(least - 1, greatest + 1), far).distinct().toArray();
    }

    Check check() {
        return check;
    }

    Run run() {
        return new Run(check);
    }

    Run tables(int count) {
        Run run = run();
        for (int table = 0; table < count; table++) {
            run.make(SpreadingDeletes::addTable);
        }
        return run;
    }

    /** One table without columns, with the rows 0 to count - 1. */
    Run filled(int count) {
        Run run = tables(1);
        for (int row = 0; row < count; row++) {
            int key = row;
            run.make(x -> x.insert(0, key, -1, -1));
        }
        return run;
    }

    /** The column 0 of table 1 points to table 0, which has the rows 1 and 2. */
    Run pair(int rule, boolean required, int standard) {
        return tables(2).make(x -> x.addReference(1, 0, rule, required, standard),
                x -> x.insert(0, 1, -1, -1), x -> x.insert(0, 2, -1, -1));
    }

    /** The column 0 of table 0 points to table 0, and each of its rows 1 to count to itself. */
    Run loops(int rule, int count) {
        Run run = tables(1).make(x -> x.addReference(0, 0, rule, false, -1));
        for (int row = 1; row <= count; row++) {
            int key = row;
            run.make(x -> x.insert(0, key, key, -1));
        }
        return run;
    }

    /**
     * A store in which a call that is refused could do harm: four states behind it, a snapshot, a
     * text that could be performed, a latest deletion. Rows 0:1, 0:2 and 1:3, 1:4, both with the
     * parent 0:1 by the column 0, which is required and has the rule restrict; the column 1 points
     * to table 1 itself with set null, and 1:3 has 1:4 there.
     */
    Run busy() {
        return pair(RESTRICT, true, 2).make(x -> x.addReference(1, 1, SET_NULL, false, -1),
                x -> x.insert(1, 3, 1, -1), x -> x.insert(1, 4, 1, -1), SpreadingDeletes::keep,
                x -> x.insert(0, 7, -1, -1), x -> x.delete(0, 7), x -> x.update(1, 3, 1, 4)).text("+0:8;-0:2");
    }
}
