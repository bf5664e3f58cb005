import java.util.ArrayList;
import java.util.Arrays;
import java.util.List;

/** Promises 19 to 22: flaws, flaw, age, struck. */
public final class FlawTest {
    private static final Check CHECK = new Check("FlawTest");
    private static final int[] FAR = {-1, Integer.MIN_VALUE, Integer.MAX_VALUE};
    // so many and so placed that prints of them match without TURN and shift, whatever comes to them
    private static final int[][] BASE = {{1, 1}, {5, 2}, {12, 4}, {3, 8}, {9, 12}};
    private static final int[] LATE = {8, 6};
    private static final int[] LOW = {14, 14};
    // all but the columns 13 to 15 were struck, so that LOW can't be told
    private static final int NARROW = 0x00CF;

    public static void main(String[] args) {
        flawsComeOverTheYears();
        latestByYear();
        firstPointIsAFlaw();
        lastPointIsAFlaw();
        eachToolForItself();
        comesBehindTheLastThatLacks();
        whatIsNotStruckDoesNotTell();
        withoutLayingNoneTells();
        firstAndLastYear();
        flawsRefuse();
        ageBetweenYears();
        ageOfWhatDoesNotTell();
        quarrels();
        ageRefuses();
        reachCounts();
        CHECK.end();
    }

    private static int base(MarkCabinet c, int struck, int[]... more) {
        List<int[]> all = new ArrayList<>(Arrays.asList(BASE));
        all.addAll(Arrays.asList(more));
        return Draw.islands(c, struck, all.toArray(new int[0][]));
    }

    private static void flawsComeOverTheYears() {
        MarkCabinet c = new MarkCabinet();
        c.keep(1, base(c, Draw.WHOLE), 1990);
        c.keep(1, base(c, Draw.WHOLE), 1995);
        CHECK.due("no flaws", 0, c.flaws(1));
        CHECK.due("there is no flaw 0", -1, c.flaw(1, 0, 0));
        c.keep(1, base(c, Draw.WHOLE, LOW), 2000);
        CHECK.due("a flaw", 1, c.flaws(1));
        CHECK.flawIs("a flaw", c, 0, 5, 2000);
        c.keep(1, base(c, Draw.WHOLE, LOW), 2005);
        CHECK.due("still one", 1, c.flaws(1));
        CHECK.flawIs("still one", c, 0, 5, 2000);
        c.keep(1, base(c, Draw.WHOLE, LATE, LOW), 2010);
        CHECK.due("two", 2, c.flaws(1));
        CHECK.flawIs("by POINTS, not by YEARS", c, 0, 3, 2010);
        CHECK.flawIs("by POINTS, not by YEARS", c, 1, 6, 2000);
        CHECK.due("there is no flaw 2", -1, c.flaw(1, 2, 0));
        CHECK.due("another tool has none of them", -4, c.flaws(2));
    }

    private static void latestByYear() {
        MarkCabinet c = new MarkCabinet();
        c.keep(1, base(c, Draw.WHOLE, LATE), 2010);
        c.keep(1, base(c, Draw.WHOLE, LOW), 2000);
        c.keep(1, base(c, Draw.WHOLE), 1990);
        CHECK.due("the flaws of the latest YEAR's print alone", 1, c.flaws(1));
        CHECK.flawIs("the latest YEAR", c, 0, 3, 2010);
        c.part(0);
        CHECK.due("the latest one that is left", 1, c.flaws(1));
        CHECK.flawIs("the latest one that is left", c, 0, 5, 2000);
    }

    private static void firstPointIsAFlaw() {
        MarkCabinet c = new MarkCabinet();
        int[] first = {8, 0};
        // by numbers the first one has it and the second one lacks it, by YEARS it is the other way round
        c.keep(1, base(c, Draw.WHOLE, first), 2000);
        c.keep(1, base(c, Draw.WHOLE), 1990);
        c.keep(1, base(c, Draw.WHOLE, first), 2010);
        CHECK.due("a flaw that is POINT 0", 1, c.flaws(1));
        CHECK.flawIs("a flaw that is POINT 0", c, 0, 0, 2000);
        CHECK.aged("it has POINT 0", c, base(c, Draw.WHOLE, first), 1, 2000, 10000);
        CHECK.aged("it lacks POINT 0", c, base(c, Draw.WHOLE), 1, 0, 2000);
        Draw.onto(c);
        CHECK.aged("without POINTS it does not tell", c, c.print(Draw.WHOLE), 1, 0, 10000);
    }

    private static void eachToolForItself() {
        MarkCabinet c = new MarkCabinet();
        c.keep(2, base(c, Draw.WHOLE), 5000);
        c.keep(2, base(c, Draw.WHOLE, LOW), 6000);
        c.keep(1, base(c, Draw.WHOLE), 1980);
        c.keep(1, base(c, Draw.WHOLE, LOW), 1990);
        c.keep(1, base(c, Draw.WHOLE, LOW), 2000);
        CHECK.due("the flaws of one tool", 1, c.flaws(2));
        CHECK.due("it comes", 6000, c.flaw(2, 0, 1));
        CHECK.due("the flaws of another one", 1, c.flaws(1));
        CHECK.flawIs("the flaws of another one", c, 0, 5, 1990);
        MarkCabinet early = new MarkCabinet();
        early.keep(1, base(early, Draw.WHOLE, LOW), 0);
        early.keep(1, base(early, Draw.WHOLE, LOW), 1);
        CHECK.due("what all have is no flaw", 0, early.flaws(1));
    }

    /** Twelve POINTS, of which the last is the one that comes. */
    private static void lastPointIsAFlaw() {
        MarkCabinet c = new MarkCabinet();
        int[][] more = {{14, 1}, {7, 8}, {14, 8}, {1, 12}, {4, 14}, {12, 14}};
        c.keep(1, base(c, Draw.WHOLE, more), 1990);
        int[][] all = Arrays.copyOf(more, 7);
        all[6] = new int[] {15, 15 - 3};
        c.keep(1, base(c, Draw.WHOLE, all), 2000);
        CHECK.due("twelve POINTS", 12, c.point(1, -1));
        CHECK.due("a flaw among twelve", 1, c.flaws(1));
        CHECK.due("its column", 15, c.point(1, 3 * c.flaw(1, 0, 0)));
        all[6] = new int[] {14, 14};
        c.part(1);
        all[5] = new int[] {11, 14};
        c.keep(1, base(c, Draw.WHOLE, all), 2000);
        CHECK.due("the last of twelve", 1, c.flaws(1));
        CHECK.flawIs("the last of twelve", c, 0, 11, 2000);
        CHECK.aged("it has the last of twelve", c, base(c, Draw.WHOLE, all), 1, 2000, 10000);
        CHECK.aged("it lacks the last of twelve", c, base(c, Draw.WHOLE, more), 1, 0, 2000);
    }

    private static void comesBehindTheLastThatLacks() {
        MarkCabinet c = new MarkCabinet();
        c.keep(1, base(c, Draw.WHOLE, LOW), 1980);
        c.keep(1, base(c, Draw.WHOLE), 1990);
        c.keep(1, base(c, Draw.WHOLE, LOW), 2000);
        c.keep(1, base(c, Draw.WHOLE), 2010);
        c.keep(1, base(c, Draw.WHOLE, LOW), 2020);
        c.keep(1, base(c, Draw.WHOLE, LOW), 2030);
        CHECK.due("one flaw, though it went and came", 1, c.flaws(1));
        CHECK.flawIs("behind the last that lacks it", c, 0, 5, 2020);
    }

    private static void whatIsNotStruckDoesNotTell() {
        MarkCabinet c = new MarkCabinet();
        c.keep(1, base(c, NARROW), 1990);
        c.keep(1, base(c, Draw.WHOLE, LATE, LOW), 2010);
        CHECK.due("what may have been there is no flaw", 1, c.flaws(1));
        CHECK.flawIs("what was struck tells", c, 0, 3, 2010);
        c.keep(1, base(c, Draw.WHOLE), 1980);
        CHECK.due("an earlier print tells", 2, c.flaws(1));
        CHECK.flawIs("it comes with the first that has it", c, 1, 6, 2010);
        c.keep(1, base(c, Draw.WHOLE, LATE, LOW), 2000);
        CHECK.flawIs("not with one that does not tell", c, 1, 6, 2000);
        // it was not struck there, but its POINT is there: what has a PAIR has it
        c.keep(1, base(c, NARROW, LOW), 1985);
        CHECK.flawIs("a PAIR outside of the STRUCK part", c, 1, 6, 1985);
    }

    private static void withoutLayingNoneTells() {
        MarkCabinet c = new MarkCabinet();
        Draw.onto(c);
        c.keep(1, c.print(Draw.WHOLE), 1990);
        c.keep(1, base(c, Draw.WHOLE), 2000);
        CHECK.due("an earlier print without POINTS", 0, c.flaws(1));
        CHECK.due("there is no flaw", -1, c.flaw(1, 0, 1));
        int other = base(c, Draw.WHOLE);
        CHECK.aged("without flaws", c, other, 1, 0, 10000);
        Draw.onto(c);
        c.keep(1, c.print(Draw.WHOLE), 2010);
        CHECK.due("a latest print without POINTS", 0, c.flaws(1));
        CHECK.aged("a latest print without POINTS", c, other, 1, 0, 10000);
    }

    private static void firstAndLastYear() {
        MarkCabinet c = new MarkCabinet();
        c.keep(1, base(c, Draw.WHOLE), 0);
        c.keep(1, base(c, Draw.WHOLE, LOW), 1);
        CHECK.due("one flaw", 1, c.flaws(1));
        CHECK.flawIs("the first YEAR lacks it", c, 0, 5, 1);
        c.part(1);
        c.keep(1, 1, 9999);
        CHECK.flawIs("the last YEAR has it", c, 0, 5, 9999);
        CHECK.aged("one that has it", c, base(c, Draw.WHOLE, LOW), 1, 9999, 10000);
        CHECK.aged("one that lacks it", c, base(c, Draw.WHOLE), 1, 0, 9999);
    }

    private static void flawsRefuse() {
        MarkCabinet c = new MarkCabinet();
        c.keep(1, base(c, Draw.WHOLE), 1990);
        CHECK.due("flaws() of one print", -4, c.flaws(1));
        CHECK.due("flaw() of one print", -4, c.flaw(1, 0, 0));
        CHECK.due("flaw() of no print", -4, c.flaw(2, 0, 1));
        c.keep(1, base(c, Draw.WHOLE, LOW), 2000);
        CHECK.due("flaws(10)", -1, c.flaws(10));
        CHECK.due("flaw(10, 0, 0)", -1, c.flaw(10, 0, 0));
        CHECK.due("flaw(1, 1, 0)", -1, c.flaw(1, 1, 0));
        CHECK.due("flaw(1, 0, 2)", -1, c.flaw(1, 0, 2));
        for (int far : FAR) {
            CHECK.due("flaws(" + far + ")", -1, c.flaws(far));
            CHECK.due("flaw(" + far + ", 0, 0)", -1, c.flaw(far, 0, 0));
            CHECK.due("flaw(1, " + far + ", 0)", -1, c.flaw(1, far, 0));
            CHECK.due("flaw(1, 0, " + far + ")", -1, c.flaw(1, 0, far));
            CHECK.due("NONE is named ahead of EMPTY", -1, c.flaw(2, 0, far));
        }
        CHECK.due("flaws(0)", -4, c.flaws(0));
        CHECK.due("flaws(9)", -4, c.flaws(9));
        CHECK.due("flaws(1)", 1, c.flaws(1));
    }

    /** Tool 1: LOW comes 2000, LATE comes 2010. */
    private static MarkCabinet twoFlaws() {
        MarkCabinet c = new MarkCabinet();
        c.keep(1, base(c, Draw.WHOLE), 1990);
        c.keep(1, base(c, Draw.WHOLE, LOW), 2000);
        c.keep(1, base(c, Draw.WHOLE, LATE, LOW), 2010);
        return c;
    }

    private static void ageBetweenYears() {
        MarkCabinet c = twoFlaws();
        CHECK.aged("one that lacks both", c, base(c, Draw.WHOLE), 1, 0, 2000);
        CHECK.aged("one that has the first", c, base(c, Draw.WHOLE, LOW), 1, 2000, 2010);
        int both = base(c, Draw.WHOLE, LATE, LOW);
        CHECK.aged("one that has both", c, both, 1, 2010, 10000);
        c.keep(2, both, 1990);
        CHECK.aged("one of another tool", c, both, 1, 2010, 10000);
        CHECK.due("age() is no match()", -1000, c.told(6));
    }

    private static void ageOfWhatDoesNotTell() {
        MarkCabinet c = twoFlaws();
        CHECK.aged("LATE is lacking, LOW does not tell", c, base(c, NARROW), 1, 0, 2010);
        CHECK.aged("LATE is there, LOW does not tell", c, base(c, NARROW, LATE), 1, 2010, 10000);
        CHECK.aged("LOW is there though not struck", c, base(c, NARROW, LOW), 1, 2000, 2010);
        Draw.onto(c);
        CHECK.aged("without a LAYING none tells", c, c.print(Draw.WHOLE), 1, 0, 10000);
    }

    private static void quarrels() {
        MarkCabinet c = twoFlaws();
        int quarrel = base(c, Draw.WHOLE, LATE);
        CHECK.aged("it has the later one alone", c, quarrel, 0, 2010, 2000);
        MarkCabinet same = new MarkCabinet();
        same.keep(1, base(same, Draw.WHOLE), 1990);
        same.keep(1, base(same, Draw.WHOLE, LATE, LOW), 2010);
        CHECK.aged("FROM is TILL", same, base(same, Draw.WHOLE, LOW), 0, 2010, 2010);
    }

    private static void ageRefuses() {
        MarkCabinet c = twoFlaws();
        int other = base(c, Draw.WHOLE, LOW);
        CHECK.due("struck(0) before any", -1, c.struck(0));
        CHECK.due("a print of that tool", -4, c.age(0, 1));
        CHECK.due("its latest one", -4, c.age(2, 1));
        CHECK.due("a tool without prints", -4, c.age(other, 2));
        CHECK.due("struck(0) behind refusals", -1, c.struck(0));
        CHECK.due("struck(1) behind refusals", -1, c.struck(1));
        CHECK.due("age", 1, c.age(other, 1));
        c.keep(2, base(c, Draw.WHOLE), 5);
        CHECK.due("a tool with one print", -4, c.age(other, 2));
        CHECK.due("a tool with one print, and it is that", -4, c.age(4, 2));
        CHECK.due("age(0, 1) again", -4, c.age(0, 1));
        CHECK.due("age(5, 1)", -1, c.age(5, 1));
        CHECK.due("age(3, 10)", -1, c.age(other, 10));
        for (int far : FAR) {
            CHECK.due("age(" + far + ", 1)", -1, c.age(far, 1));
            CHECK.due("age(3, " + far + ")", -1, c.age(other, far));
            CHECK.due("struck(" + far + ")", -1, c.struck(far));
        }
        CHECK.due("struck(2)", -1, c.struck(2));
        CHECK.due("FROM stays", 2000, c.struck(0));
        CHECK.due("TILL stays", 2010, c.struck(1));
        c.flaws(1);
        c.part(2);
        CHECK.due("FROM stays with what changes", 2000, c.struck(0));
        CHECK.due("one that is parted from it", 1, c.age(2, 1));
        CHECK.due("FROM by one flaw", 2000, c.struck(0));
        CHECK.due("TILL by one flaw", 10000, c.struck(1));
    }

    private static void reachCounts() {
        MarkCabinet c = new MarkCabinet();
        c.keep(1, base(c, Draw.WHOLE, Draw.at(12, 14)), 1990);
        c.keep(1, base(c, Draw.WHOLE, LOW), 2000);
        CHECK.due("two columns apart by REACH 1", 1, c.flaws(1));
        c.reach(2);
        CHECK.due("two columns apart by REACH 2", 0, c.flaws(1));
        c.reach(0);
        CHECK.due("by REACH 0", 1, c.flaws(1));
    }
}
