/**
 * The bounds that the document names for the calls that tell what is so (promises 12 to 21): at the bound, just below
 * it and just above it; and that nothing is changed by asking, answered or refused.
 */
public final class AskBoundsTest {
    /** Lines with a part shown, one gone, one closed and a row in its open part; a table with two keys; empty lines. */
    private static final String MIXED = "output(0) output(1) output(0) reader(0) "
            + "2*write(0,1,11) write(1,0,20) write(1,9,29) barrier(3)=4 keep(3)=4 write(0,2,12) barrier(5)=1 give(5)=1 "
            + "3*write(0,3,13) barrier(7)=3 write(0,4,14) ";
    /** A part that is not closed, and no power. */
    private static final String CUT = "output(0) 5*write(0,6,-1) power(4) barrier(2)=DOWN ";

    public static void main(String[] args) {
        about();
        part();
        line();
        last();
        tables();
        reader();
        read();
        seen();
        record();
        told();
        audit();
        Due.end("AskBoundsTest");
    }

    private static void about() {
        Story.run("about: what", MIXED, "about(0,-1)!OUTSIDE about(0,0)!0 about(0,1)!1 about(0,2)!3 about(0,3)!2",
                "about(0,4)!1 about(0,5)!0 about(0,6)!1 about(0,7)!OUTSIDE about(0,MIN)!OUTSIDE",
                "about(0,MAX)!OUTSIDE about(0,NONE)!OUTSIDE");
        Story.run("about: outputs", MIXED, "about(-1,0)!UNKNOWN about(0,0)!0 about(1,0)!1 about(2,0)!0",
                "about(3,0)!UNKNOWN about(MIN,0)!UNKNOWN about(MAX,0)!UNKNOWN about(NONE,0)!UNKNOWN");
        Story.run("about: an output alone", "about(0,0)!UNKNOWN output(1) about(0,0)!1 about(0,1)!0 about(0,2)!0",
                "about(0,3)!0 about(0,4)!0 about(0,5)!0 about(0,6)!0 about(1,0)!UNKNOWN");
        Story.run("about: while it is down", CUT, "about(0,0)!0 about(0,1)!0 about(0,2)!1 about(0,3)!0 about(0,6)!0");
        Story.run("about: parts that wait", "output(0) write(0,1,1) about(0,6)!0 barrier(1)=1 about(0,6)!1",
                "write(0,1,1) barrier(2)=1 about(0,6)!2 write(0,1,1) barrier(3)=1 give(3)=1 about(0,6)!2 keep(1)=1",
                "about(0,6)!1 fails(0,1) keep(2)=0 about(0,6)!1 show()=1 about(0,6)!0");
        Story.run("about: keys of a table, none to ten", "output(1) about(0,3)=0 write(0,0,1) barrier(0) keep(0)=1",
                "about(0,3)=1 write(0,0,2) barrier(1) keep(1)=1 about(0,3)=1 write(0,1,1) write(0,2,1) write(0,3,1)",
                "write(0,4,1) write(0,5,1) write(0,6,1) write(0,7,1) write(0,8,1) barrier(2)=8 keep(2)=8",
                "about(0,3)=9 write(0,9,1) barrier(3) keep(3)=1 about(0,3)=10 write(0,9,2) barrier(4) keep(4)=1",
                "about(0,3)=10");
        Story.run("about: refused asking is no try", "output(0) write(0,1,1) barrier(0) keep(0) about(0,4)!1",
                "fails(0,101)!OUTSIDE keep(0)!OUTSIDE about(0,4)=1");
    }

    private static void part() {
        Story.run("part: what", MIXED, "part(0,0,-1)!OUTSIDE part(0,0,0)!3 part(0,0,1)!2 part(0,0,2)!2",
                "part(0,0,3)!OUTSIDE part(0,0,MIN)!OUTSIDE part(0,0,MAX)!OUTSIDE part(0,0,NONE)!OUTSIDE");
        Story.run("part: numbers", MIXED, "part(0,-1,0)!UNKNOWN part(0,0,0)!3 part(0,1,0)!5 part(0,1,2)!3",
                "part(0,2,0)!7 part(0,2,1)!3 part(0,2,2)!1 part(0,3,0)!UNKNOWN part(0,MIN,0)!UNKNOWN",
                "part(0,MAX,0)!UNKNOWN part(0,NONE,0)!UNKNOWN");
        Story.run("part: outputs", MIXED, "part(-1,0,0)!UNKNOWN part(1,0,0)!3 part(1,1,0)!UNKNOWN",
                "part(2,0,0)!UNKNOWN part(3,0,0)!UNKNOWN part(MIN,0,0)!UNKNOWN part(MAX,0,0)!UNKNOWN");
        Story.run("part: not closed", CUT, "part(0,0,0)!NONE part(0,0,1)!3 part(0,0,2)!0 part(0,1,0)!UNKNOWN",
                "open()=0 part(0,0,0)!NONE part(0,0,2)!0");
        Story.run("part: all rows but not closed", "output(0) 20*write(0,1,1) power(21) barrier(0)=DOWN",
                "part(0,0,1)!20 part(0,0,0)!NONE part(0,0,2)!0");
        Story.run("part: one row and twenty", "output(0) write(0,1,1) barrier(0)=1 part(0,0,1)!1 20*write(0,1,1)",
                "barrier(1)=20 part(0,1,1)!20");
        Story.run("part: the marks 0 and 1,000,000", "output(0) write(0,1,1) barrier(0) write(0,1,1)",
                "barrier(1000000) part(0,0,0)!0 part(0,1,0)!1000000");
        Story.run("part: an open part has no number", "output(0) write(0,1,1) part(0,0,0)!UNKNOWN give(0)=1",
                "part(0,0,0)!UNKNOWN");
    }

    private static void line() {
        Story.run("line: what", MIXED, "line(0,1,-1)!NO line(0,1,0)!1 line(0,1,1)!11 line(0,1,2)!0 line(0,1,3)!1",
                "line(0,1,4)!NO line(0,0,4)!NO line(0,0,-1)!NO line(0,0,MIN)!NO line(0,0,MAX)!NO line(0,0,NONE)!NO");
        Story.run("line: rows", MIXED, "line(0,-1,0)!NO line(0,0,3)!0 line(0,1,3)!1 line(0,2,0)!NO line(0,MIN,0)!NO",
                "line(0,MAX,0)!NO line(0,NONE,0)!NO");
        Story.run("line: rows that would wrap around", MIXED, "line(0,1073741824,0)!NO line(0,1073741825,0)!NO",
                "line(0,-1073741824,0)!NO line(0,536870912,0)!NO line(0,268435456,0)!NO line(0,-2147483647,0)!NO");
        Story.run("line: outputs", MIXED, "line(-1,0,0)!NO line(1,0,0)!NO line(2,0,0)!NO line(3,0,0)!NO",
                "line(MIN,0,0)!NO line(MAX,0,0)!NO");
        Story.run("line: nothing out there", "output(0) line(0,0,0)!NO write(0,1,1) line(0,0,0)!NO barrier(0)",
                "line(0,0,0)!NO keep(0)=1 line(0,0,0)!1 line(0,1,0)!NO");
        Story.run("line: some rows of a part", "output(0) 3*write(0,1,5) barrier(0) power(3) keep(0)=DOWN",
                "line(0,0,1)!5 line(0,1,1)!NO open()=1 line(0,2,1)!5");
        Story.run("line: parts in their order, without what is not there", "output(0) write(0,1,1) barrier(1)",
                "write(0,2,2) barrier(2) give(2) 2*write(0,3,3) power(2) barrier(2)=DOWN power(NONE)!DOWN open()=1",
                "write(0,4,4) write(0,5,5) barrier(1) keep(1)=2 line(0,0,0)!4 line(0,0,2)!3 line(0,0,3)!0",
                "line(0,1,0)!5 line(0,1,2)!3 line(0,1,3)!1 line(0,2,0)!NO");
    }

    private static void last() {
        Story.run("last: what", MIXED, "last(1,9,-1)!NO last(1,9,0)!29 last(1,9,1)!0 last(1,9,2)!1 last(1,9,3)!NO",
                "last(1,9,MIN)!NO last(1,9,MAX)!NO last(1,9,NONE)!NO");
        Story.run("last: keys", MIXED, "last(1,-1,0)!NO last(1,0,0)!20 last(1,1,0)!NO last(1,8,0)!NO last(1,9,0)!29",
                "last(1,10,0)!NO last(1,MIN,0)!NO last(1,MAX,0)!NO last(1,NONE,0)!NO last(1,1,1)!NO last(1,1,2)!NO");
        Story.run("last: outputs", MIXED, "last(-1,0,0)!NO last(0,1,0)!NO last(2,0,0)!NO last(3,0,0)!NO",
                "last(MIN,0,0)!NO last(MAX,0,0)!NO");
        Story.run("last: nothing out there", "output(1) last(0,0,0)!NO write(0,0,4) last(0,0,0)!NO barrier(0)",
                "last(0,0,0)!NO keep(0)=1 last(0,0,0)!4 last(0,1,0)!NO");
    }

    private static void tables() {
        Story.run("table: a greater place of the same part", "output(1) write(0,1,5) write(0,1,4) write(0,1,3)",
                "barrier(0) keep(0)=3 last(0,1,0)=3 last(0,1,2)=2");
        Story.run("table: a greater part with a lesser place", "output(1) write(0,2,1) write(0,1,5) barrier(0)",
                "keep(0)=2 last(0,1,2)=1 write(0,1,4) barrier(1) keep(1)=1 last(0,1,0)=4 last(0,1,1)=1",
                "last(0,1,2)=0 last(0,2,1)=0");
        Story.run("table: the same row again", "output(1) write(0,1,5) barrier(0) power(3) keep(0)=DOWN",
                "last(0,1,0)=5 fails(0,1) open()=0 show()=0 last(0,1,0)=5 part(0,0,2)=2");
        Story.run("table: a lesser place of the same part", "output(1) write(0,1,5) write(0,1,6) barrier(0)",
                "power(4) keep(0)=DOWN last(0,1,2)=1 fails(0,1) open()=0 power(2) show()=DOWN last(0,1,0)=6",
                "last(0,1,2)=1 open()=1 last(0,1,0)=6");
        Story.run("table: one dropped, one not", "output(1) write(0,1,5) write(0,1,6) barrier(0) power(3)",
                "keep(0)=DOWN last(0,1,0)=5 fails(0,1) open()=0 show()=1 last(0,1,0)=6");
        Story.run("lines: the same rows again", "output(0) 2*write(0,1,5) barrier(0) power(3) keep(0)=DOWN",
                "about(0,3)=1 fails(0,1) open()=0 show()=1 about(0,3)=2");
        Story.run("lines: equal rows of other places and parts come", "output(0) 2*write(0,1,5) barrier(0)",
                "keep(0)=2 2*write(0,1,5) barrier(1) keep(1)=2 about(0,3)=4");
    }

    private static void reader() {
        Story.run("reader: 4 at most", "output(0) output(0) told(8)=0 reader(0)=0 reader(1)=1 reader(0)=2 told(8)=3",
                "reader(1)=3 told(8)=4 reader(0)!ROOM reader(1)!ROOM told(8)=4");
        Story.run("reader: outputs", "reader(0)!UNKNOWN output(0) output(1) reader(-1)!UNKNOWN reader(0)=0",
                "reader(1)!STATE reader(2)!UNKNOWN output(0) reader(2)=1 reader(3)!UNKNOWN reader(MIN)!UNKNOWN",
                "reader(MAX)!UNKNOWN told(8)=2");
        Story.run("reader: from the first row", "output(0) 3*write(0,1,1) barrier(0) keep(0)=3 reader(0)=0",
                "read(0,2)=2 reader(0)=1 read(1,100)=3 read(0,100)=1 seen(1,1)=3");
        Story.run("reader: while it is down, and behind the end", CUT, "reader(0)=0 read(0,1)=0 open()=0 end(3)=0",
                "reader(0)=1 told(8)=2");
    }

    private static void read() {
        String rows = "output(0) reader(0)=0 20*write(0,1,1) barrier(1) 20*write(0,2,2) barrier(2) "
                + "20*write(0,3,3) barrier(3) 20*write(0,4,4) barrier(4) ";
        Story.run("read: 1 to 100", rows, "2*write(0,5,5) barrier(5) keep(5)=82 read(0,0)!OUTSIDE",
                "read(0,-1)!OUTSIDE read(0,101)!OUTSIDE read(0,MIN)!OUTSIDE read(0,MAX)!OUTSIDE",
                "read(0,NONE)!OUTSIDE seen(0,NONE)=0 read(0,1)=1 read(0,2)=2 read(0,100)=79 read(0,100)!0",
                "read(0,1)!0");
        Story.run("read: 99 rows", rows, "19*write(0,5,5) barrier(5) keep(5)=99 read(0,100)=99 read(0,1)!0");
        Story.run("read: 100 rows", rows, "20*write(0,5,5) barrier(5) keep(5)=100 read(0,100)=100 read(0,1)!0");
        Story.run("read: 101 rows", rows, "20*write(0,5,5) barrier(5) write(0,6,6) barrier(6) keep(6)=101",
                "read(0,100)=100 read(0,100)=1 seen(0,6)=1 read(0,100)!0");
        Story.run("read: up to 99 of 100", rows, "20*write(0,5,5) barrier(5) keep(5)=100 read(0,99)=99 seen(0,5)=19",
                "read(0,99)=1 seen(0,5)=20");
        Story.run("read: readers", "read(0,1)!UNKNOWN output(0) read(0,1)!UNKNOWN reader(0)=0 read(0,1)!0",
                "read(1,1)!UNKNOWN read(-1,1)!UNKNOWN 3*reader(0) read(3,1)!0 read(4,1)!UNKNOWN read(MIN,1)!UNKNOWN",
                "read(MAX,1)!UNKNOWN");
        Story.run("read: only what is out there", "output(0) reader(0)=0 2*write(0,1,1) read(0,1)!0 barrier(1)",
                "read(0,1)!0 power(3) keep(1)=DOWN read(0,100)=1 read(0,1)!0 open()=1 read(0,100)=1 seen(0,1)=2");
        Story.run("read: each reader for itself, each output for itself", "output(0) output(0) reader(0)=0",
                "reader(0)=1 reader(1)=2 2*write(0,1,1) write(1,2,2) barrier(1) keep(1)=3 read(0,1)=1 read(1,100)=2",
                "read(2,100)=1 seen(0,NONE)=1 seen(1,NONE)=2 seen(2,NONE)=1 seen(2,1)=0 seen(2,2)=1");
    }

    private static void seen() {
        String two = "output(0) reader(0)=0 write(0,0,1) 2*write(0,9,1) barrier(1) keep(1)=3 ";
        Story.run("seen: nothing yet", two, "seen(0,NONE)!0 seen(0,0)!0 seen(0,9)!0");
        Story.run("seen: keys", two, "read(0,100)=3 seen(0,-1)!OUTSIDE seen(0,0)!1 seen(0,1)!0 seen(0,8)!0",
                "seen(0,9)!2 seen(0,10)!OUTSIDE seen(0,NONE)!3 seen(0,-5)!OUTSIDE seen(0,-7)!OUTSIDE",
                "seen(0,MIN)!OUTSIDE seen(0,MAX)!OUTSIDE");
        Story.run("seen: as far as it went", two, "read(0,1)=1 seen(0,0)!1 seen(0,9)!0 seen(0,NONE)!1 read(0,1)=1",
                "seen(0,9)!1 read(0,1)=1 seen(0,9)!2 read(0,1)!0 seen(0,NONE)!3");
        Story.run("seen: readers", "seen(0,NONE)!UNKNOWN output(0) seen(0,0)!UNKNOWN reader(0)=0 seen(0,0)!0",
                "seen(1,0)!UNKNOWN seen(-1,0)!UNKNOWN 3*reader(0) seen(3,NONE)!0 seen(4,NONE)!UNKNOWN",
                "seen(MIN,0)!UNKNOWN seen(MAX,0)!UNKNOWN");
        Story.run("seen: while it is down", two, "read(0,2)=2 write(0,1,1) power(1) barrier(2)=DOWN seen(0,9)!1",
                "seen(0,NONE)!2 read(0,9)=1 seen(0,9)!2");
    }

    /** All six kinds: rows, a part closed, a mark kept, a part shown, a part gone, the end. */
    private static final String KINDS = "output(0) output(1) write(1,4,44) barrier(2)=1 keep(2)=1 "
            + "write(1,5,NONE) barrier(3)=1 give(3)=1 end(6)=0 ";

    private static void record() {
        Story.run("record: a row", KINDS, "record(0,0)!0 record(0,1)!1 record(0,2)!0 record(0,3)!4 record(0,4)!44");
        Story.run("record: a part is closed", KINDS, "record(1,0)!1 record(1,1)!1 record(1,2)!0 record(1,3)!2",
                "record(1,4)!NONE");
        Story.run("record: a mark is kept", KINDS, "record(2,0)!2 record(2,1)!NONE record(2,2)!NONE record(2,3)!2",
                "record(2,4)!NONE");
        Story.run("record: a part is shown", KINDS, "record(3,0)!3 record(3,1)!1 record(3,2)!0 record(3,3)!NONE",
                "record(3,4)!NONE");
        Story.run("record: another row", KINDS, "record(4,0)!0 record(4,1)!1 record(4,2)!1 record(4,3)!5",
                "record(4,4)!NONE record(5,0)!1 record(5,3)!3");
        Story.run("record: a part is gone", KINDS, "record(6,0)!4 record(6,1)!1 record(6,2)!1 record(6,3)!NONE",
                "record(6,4)!NONE");
        Story.run("record: the end", KINDS, "record(7,0)!5 record(7,1)!NONE record(7,2)!NONE record(7,3)!6",
                "record(7,4)!NONE");
        Story.run("record: numbers", KINDS, "told(1)=8 record(-1,0)!UNKNOWN record(0,0)!0 record(7,0)!5",
                "record(8,0)!UNKNOWN record(MIN,0)!UNKNOWN record(MAX,0)!UNKNOWN record(NONE,0)!UNKNOWN");
        Story.run("record: numbers that would wrap around", KINDS, "record(858993460,0)!UNKNOWN",
                "record(858993459,1)!UNKNOWN record(1717986919,0)!UNKNOWN record(-858993459,0)!UNKNOWN",
                "record(1073741824,0)!UNKNOWN record(-2147483647,0)!UNKNOWN");
        Story.run("record: what", KINDS, "record(0,-1)!OUTSIDE record(0,0)!0 record(0,4)!44 record(0,5)!OUTSIDE",
                "record(7,5)!OUTSIDE record(7,-1)!OUTSIDE record(1,MIN)!OUTSIDE record(1,MAX)!OUTSIDE",
                "record(1,NONE)!OUTSIDE");
        Story.run("record: an empty disk", "record(0,0)!UNKNOWN output(0) write(0,1,1) record(0,0)!UNKNOWN",
                "barrier(-1)!OUTSIDE record(0,0)!UNKNOWN");
        Story.run("record: they stay", CUT, "told(1)=3 open()=0 told(1)=3 record(0,0)!0 record(2,3)!6",
                "record(2,4)!-1 record(3,0)!UNKNOWN end(2)=0 record(0,4)!-1 record(3,0)!5");
    }

    private static void told() {
        Story.run("told: what", MIXED, "told(-1)!OUTSIDE told(0)!3 told(1)!16 told(2)!3 told(3)!7 told(4)!0",
                "told(5)!0 told(6)!20 told(7)!3 told(8)!1 told(9)!OUTSIDE told(MIN)!OUTSIDE told(MAX)!OUTSIDE",
                "told(NONE)!OUTSIDE");
        Story.run("told: marks", "told(2)=NONE told(3)=NONE barrier(0)=0 told(2)=NONE told(3)=0 keep(0)=0 told(2)=0",
                "told(3)=0 barrier(8)=0 told(2)=0 told(3)=8 barrier(9)=0 keep(8)=0 told(2)=8 told(3)=9 give(9)=0",
                "told(2)=8 told(3)=8 end(10)=0 told(2)=10 told(3)=10");
        Story.run("told: the mark when all barriers are given up", "barrier(4)=0 barrier(6)=0 give(5)=0",
                "told(2)=NONE told(3)=4 give(0)=0 told(3)=NONE");
        Story.run("told: while it is down", CUT, "told(0)!1 told(1)!3 told(2)!NONE told(3)!NONE told(4)!0 told(5)!1",
                "told(6)!3 told(7)!1 told(8)!0 open()=0 told(5)!0");
        Story.run("told: acts, not those at which power failed", "output(0) write(0,1,1) told(6)=0 power(1)",
                "barrier(0)=DOWN told(6)=0 open()=0 told(6)=0 write(0,1,1) barrier(0)=1 told(6)=2 give(0)=1",
                "told(6)=3 write(0,1,1) barrier(0)=1 told(6)=5 keep(0)=1 told(6)=8 told(1)=7");
        Story.run("told: the end", "told(4)=0 barrier(0)=0 told(4)=0 keep(0)=0 told(4)=0 end(0)!OUTSIDE told(4)=0",
                "end(1)=0 told(4)=1");
    }

    private static void audit() {
        Story.run("audit: always 0", "audit()!0 output(0) output(1) audit()!0 2*write(0,1,1) 2*write(1,1,1)",
                "audit()!0 barrier(1)=4 audit()!0 power(3) keep(1)=DOWN audit()!0 fails(1,1) open()=1 audit()!0",
                "show()=2 audit()!0 write(0,1,1) barrier(2)=1 give(2)=1 audit()!0 write(0,1,1) power(2)",
                "barrier(2)=DOWN audit()!0 open()=0 audit()!0 write(1,1,1) end(3)=1 audit()!0");
        for (int k = 1; k <= 13; k++) {
            Story.run("audit: power at act " + k,
                    "output(1) output(0) 2*write(0,1,1) 2*write(1,1,1) power(" + k + ")",
                    "barrier(1) audit()!0 keep(1) audit()!0",
                    "open() audit()!0 write(0,1,1) write(1,1,1) fails(0,1) barrier(2) keep(2) audit()!0 show()",
                    "audit()!0");
        }
    }
}
