import java.util.function.IntUnaryOperator;

/** Counts and prints the answers that are not as due. */
final class Check {
    private final String name;
    private int asked = 0;
    private int wrong = 0;

    Check(String name) {
        this.name = name;
    }

    void due(String call, long want, long got) {
        asked++;
        if (got != want) {
            wrong++;
            System.out.println(name + ": " + call + " answered " + got + ", due is " + want);
        }
    }

    void holds(String what, boolean so) {
        due(what, 1, so ? 1 : 0);
    }

    /** The first number on either side of least .. most, and the farthest ones, are refused by this answer. */
    void refuses(String call, int answer, int least, int most, IntUnaryOperator asking) {
        int[] beside = {least - 1, most + 1, Integer.MIN_VALUE, Integer.MAX_VALUE};
        for (int number : beside) {
            due(call + " with # = " + number, answer, asking.applyAsInt(number));
        }
    }

    /** What told() tells, from 0 on: PAIRS, BARE, SCORE, q, dx, dy, and whether there was a LAYING. */
    void told(String of, MarkCabinet c, int... due) {
        for (int what = 0; what < due.length; what++) {
            due(of + ": told(" + what + ")", due[what], c.told(what));
        }
    }

    /** What pair() tells of each POINT of a, and that it tells of no other one. */
    void paired(String of, MarkCabinet c, int... due) {
        for (int i = 0; i < due.length; i++) {
            due(of + ": pair(" + i + ")", due[i], c.pair(i));
        }
        due(of + ": no more pairs", MarkCabinet.NONE, c.pair(due.length));
        due(of + ": pair(-1)", MarkCabinet.NONE, c.pair(-1));
    }

    /** Column, row and KIND of each POINT of a print, and that it has no other one. */
    void points(String of, MarkCabinet c, int print, int[]... due) {
        due(of + ": how many POINTS", due.length, c.point(print, -1));
        for (int i = 0; i < due.length; i++) {
            for (int k = 0; k < 3; k++) {
                due(of + ": point(" + print + ", " + (3 * i + k) + ")", due[i][k], c.point(print, 3 * i + k));
            }
        }
        due(of + ": no more POINTS", MarkCabinet.NONE, c.point(print, 3 * due.length));
    }

    /** Of which TOOL a print is, and of which YEAR. */
    void belongs(String of, MarkCabinet c, int print, int tool, int year) {
        due(of + ": of(" + print + ", 0)", tool, c.of(print, 0));
        due(of + ": of(" + print + ", 1)", year, c.of(print, 1));
    }

    /** A FLAW of tool 1. */
    void flawIs(String of, MarkCabinet c, int i, int point, int comes) {
        due(of + ": the POINT of flaw " + i, point, c.flaw(1, i, 0));
        due(of + ": flaw " + i + " comes", comes, c.flaw(1, i, 1));
    }

    /** The AGE of a print by tool 1. */
    void aged(String of, MarkCabinet c, int print, int due, int from, int till) {
        due(of + ": age", due, c.age(print, 1));
        due(of + ": from", from, c.struck(0));
        due(of + ": till", till, c.struck(1));
    }

    /** Ends the program with exit code 1 if an answer was wrong, or if none was asked for. */
    void end() {
        System.out.println(name + ": " + asked + " answers, " + wrong + " wrong");
        if (wrong != 0 || asked == 0) {
            System.exit(1);
        }
    }
}
