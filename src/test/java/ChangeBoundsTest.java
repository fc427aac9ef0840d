/**
 * The bounds that the document names for the calls that change something (promises 1 to 11): at the bound, just below
 * it and just above it; and that a refused call changes nothing.
 */
public final class ChangeBoundsTest {
    public static void main(String[] args) {
        newObject();
        output();
        write();
        barrierMarks();
        barrierRows();
        barriersInAll();
        partsInAll();
        keep();
        show();
        give();
        giveAndBarriers();
        end();
        fails();
        power();
        open();
        Due.end("ChangeBoundsTest");
    }

    private static void newObject() {
        Story.run("new: no outputs, an empty disk, no mark", "told(0)!0 told(1)!0 told(2)!NONE told(3)!NONE",
                "told(4)!0 told(5)!0 told(6)!0 told(7)!0 told(8)!0 audit()!0");
        Story.run("new: there is nothing to ask", "about(0,0)!UNKNOWN part(0,0,0)!UNKNOWN line(0,0,0)!NO",
                "last(0,0,0)!NO reader(0)!UNKNOWN read(0,1)!UNKNOWN seen(0,NONE)!UNKNOWN record(0,0)!UNKNOWN");
        Story.run("new: nothing to do it with", "write(0,0,0)!UNKNOWN fails(0,0)!UNKNOWN keep(0)!OUTSIDE show()!0",
                "open()!0 give(0)!0 power(NONE)!1");
        Story.run("new: a barrier of no outputs", "barrier(0)=0 told(1)=0 told(6)=0 told(7)=1 keep(0)=0 told(1)=1",
                "told(6)=1");
        Story.run("new: the end of no outputs", "end(0)=0 told(1)=1 told(2)=0 told(4)=1 told(7)=1 record(0,0)=5");
        Story.run("new: power stays", "output(0)", Story.numbers("20*write(0,1,1) barrier(", 0, 19, ")=20"),
                "told(6)=420 told(5)=0 keep(19)=400 told(6)=841 told(5)=0");
    }

    private static void output() {
        Story.run("output: sorts 0 and 1", "output(-1)!OUTSIDE output(0)=0 about(0,0)=0 output(2)!OUTSIDE",
                "output(1)=1 about(1,0)=1 output(MIN)!OUTSIDE output(MAX)!OUTSIDE output(NONE)!OUTSIDE told(0)=2");
        Story.run("output: 3 at most", "told(0)=0 output(0)=0 told(0)=1 output(1)=1 told(0)=2 output(0)=2 told(0)=3",
                "output(0)!ROOM output(1)!ROOM told(0)=3 about(3,0)!UNKNOWN");
        Story.run("output: rows, showing, giving up and opening are no barrier", "output(0)=0 write(0,1,1)=1",
                "show()=0 give(0)=1 open()=0 barrier(-1)!OUTSIDE end(-1)!OUTSIDE told(7)=0 output(0)=1");
        Story.run("output: behind the first barrier", "output(0)=0 barrier(0)=0 output(0)!STATE output(1)!STATE");
        Story.run("output: behind a barrier given up", "output(0)=0 barrier(0)=0 give(0)=0 told(3)=NONE",
                "output(1)!STATE");
        Story.run("output: behind a barrier that opening took", "output(0) barrier(0)=0 open()=0 told(3)=NONE",
                "output(1)!STATE");
        Story.run("output: behind a barrier at which power failed", "output(0) write(0,1,1) power(1)",
                "barrier(0)=DOWN output(1)!DOWN open()=0 told(7)=1 output(1)!STATE");
        Story.run("output: behind the end", "output(0) end(0)=0 output(0)!STATE");
    }

    private static void write() {
        Story.run("write: outputs", "write(0,0,0)!UNKNOWN output(0) write(0,0,0)=1 write(1,0,0)!UNKNOWN output(1)",
                "write(1,0,0)=1 write(2,0,0)!UNKNOWN output(0) write(2,0,0)=1 write(3,0,0)!UNKNOWN",
                "write(-1,0,0)!UNKNOWN write(MIN,0,0)!UNKNOWN write(MAX,0,0)!UNKNOWN");
        Story.run("write: keys 0 to 9", "output(0) write(0,-1,0)!OUTSIDE write(0,0,0)=1 write(0,1,0)=2",
                "write(0,8,0)=3 write(0,9,0)=4 write(0,10,0)!OUTSIDE write(0,MIN,0)!OUTSIDE write(0,MAX,0)!OUTSIDE",
                "write(0,NONE,0)!OUTSIDE about(0,1)=4 barrier(0)=4 record(0,3)=0 record(3,3)=9");
        Story.run("write: any value", "output(0) output(1) write(0,0,MIN)=1 write(0,0,MAX)=2 write(0,0,0)=3",
                "write(0,0,NONE)=4 write(1,0,MIN)=1 write(1,1,MAX)=2 write(1,2,0)=3 write(1,3,NONE)=4 end(0)=8",
                "record(0,4)=MIN record(1,4)=MAX record(2,4)=0 record(3,4)=NONE line(0,0,1)=MIN line(0,1,1)=MAX",
                "line(0,2,1)=0 line(0,3,1)=NONE last(1,0,0)=MIN last(1,1,0)=MAX last(1,2,0)=0 last(1,3,0)=NONE",
                "about(1,3)=4");
        Story.run("write: 20 rows", "output(0) output(0) 18*write(0,1,1) write(0,2,2)=19 write(0,3,3)=20",
                "about(0,1)=20 write(0,4,4)!ROOM write(0,4,4)!ROOM write(1,4,4)=1 about(0,1)=20 about(1,1)=1",
                "barrier(0)=21 part(0,0,1)=20 record(18,3)=2 record(19,3)=3 record(20,0)=1 about(0,1)=0",
                "write(0,4,4)=1");
        Story.run("write: room again when it was given up", "output(0) 20*write(0,1,1) write(0,1,1)!ROOM give(0)=20",
                "about(0,1)=0 20*write(0,1,1) about(0,1)=20 write(0,1,1)!ROOM");
        Story.run("write: room again when it was opened", "output(0) 20*write(0,1,1) write(0,1,1)!ROOM open()=0",
                "about(0,1)=0 write(0,1,1)=1");
        Story.run("write: room again when power failed", "output(0) output(0) 20*write(0,1,1) 20*write(1,1,1)",
                "power(1) barrier(0)=DOWN about(0,1)=0 about(1,1)=0 write(0,1,1)!DOWN open()=0 write(0,1,1)=1",
                "write(1,1,1)=1");
        Story.run("write: not behind the end", "output(0) write(0,1,1)=1 end(0)=1 write(0,1,1)!STATE about(0,1)=0",
                "open()=0 write(0,1,1)!STATE");
        Story.run("write: not behind an end that power cut short behind its record", "output(0) write(0,1,1)",
                "power(4) end(0)=DOWN told(4)=1 write(0,1,1)!DOWN open()=1 write(0,1,1)!STATE");
        Story.run("write: behind an end whose record was not written", "output(0) write(0,1,1) power(3) end(0)=DOWN",
                "told(4)=0 write(0,1,1)!DOWN open()=1 write(0,1,1)=1");
    }

    private static void barrierMarks() {
        Story.run("barrier: marks 0 to 1,000,000", "output(0) barrier(-1)!OUTSIDE barrier(MIN)!OUTSIDE",
                "barrier(NONE)!OUTSIDE barrier(-5)!OUTSIDE barrier(1000001)!OUTSIDE barrier(MAX)!OUTSIDE told(7)=0",
                "barrier(0)=0 told(3)=0 barrier(999999)=0 barrier(1000000)=0 told(3)=1000000",
                "barrier(1000001)!OUTSIDE barrier(1000000)!OUTSIDE keep(1000000)=0 told(2)=1000000",
                "barrier(1000000)!OUTSIDE barrier(1000001)!OUTSIDE barrier(0)!OUTSIDE told(7)=3");
        Story.run("barrier: above those before", "output(0) write(0,1,1) barrier(7)=1 write(0,2,2)=1",
                "barrier(6)!OUTSIDE barrier(7)!OUTSIDE barrier(0)!OUTSIDE about(0,1)=1 barrier(8)=1 part(0,1,0)=8",
                "told(3)=8");
        Story.run("barrier: above one that is not the last", "output(0) barrier(3)=0 barrier(9)=0",
                "barrier(4)!OUTSIDE barrier(8)!OUTSIDE");
        Story.run("barrier: above the mark", "output(0) barrier(5)=0 keep(5)=0 barrier(5)!OUTSIDE",
                "barrier(4)!OUTSIDE barrier(6)=0 give(6)=0 barrier(5)!OUTSIDE barrier(6)=0");
        Story.run("barrier: above the mark when it was opened", "output(0) barrier(5)=0 keep(5)=0 barrier(9)=0",
                "open()=0 barrier(5)!OUTSIDE barrier(4)!OUTSIDE barrier(0)!OUTSIDE barrier(6)=0 told(3)=6");
        Story.run("barrier: any mark when it was opened without one", "output(0) barrier(5)=0 barrier(9)=0 open()=0",
                "barrier(0)=0");
        Story.run("barrier: marks given up may be told again", "output(0) barrier(5)=0 barrier(7)=0 barrier(9)=0",
                "give(7)=0 barrier(5)!OUTSIDE barrier(6)=0 barrier(7)=0 barrier(8)=0 told(7)=6");
        Story.run("barrier: one at which power fails is none", "output(0) write(0,1,1) power(2) barrier(7)=DOWN",
                "told(3)=NONE told(7)=1 keep(7)!OUTSIDE open()=0 told(3)=NONE keep(7)!OUTSIDE write(0,1,1)",
                "barrier(7)=1 told(7)=2 told(3)=7");
    }

    private static void barrierRows() {
        Story.run("barrier: no outputs with rows", "output(0) output(1) barrier(0)=0 told(1)=0 about(0,2)=0",
                "about(1,2)=0");
        Story.run("barrier: one row", "output(0) output(1) write(1,1,1) barrier(0)=1 told(1)=2 about(0,2)=0",
                "about(1,2)=1");
        Story.run("barrier: all full", "output(0) output(1) output(0) 20*write(0,1,1) 20*write(1,1,1)",
                "20*write(2,1,1) barrier(0)=60 told(1)=63 told(6)=63 record(20,0)=1 record(20,1)=0 record(41,1)=1",
                "record(62,1)=2");
        String three = "output(0) output(0) output(0) write(0,1,1) write(2,2,2) write(2,3,3) ";
        Story.run("barrier: power at act 1", three, "power(1) barrier(4)=DOWN told(1)=0 told(6)=0 told(5)=1",
                "about(0,2)=0 part(0,0,0)!UNKNOWN about(0,1)=0 about(2,1)=0 open()=0 write(0,1,1)=1 barrier(4)=1",
                "about(0,2)=1");
        Story.run("barrier: power at act 2", three, "power(2) barrier(4)=DOWN told(1)=1 told(6)=1 about(0,2)=1",
                "part(0,0,0)=NONE part(0,0,1)=1 part(0,0,2)=0 about(0,6)=0 about(2,1)=0 open()=0 part(0,0,2)=0",
                "write(0,1,1) barrier(4)=1 part(0,1,0)=4 keep(4)=1 line(0,0,2)=1");
        Story.run("barrier: power at act 3", three, "power(3) barrier(4)=DOWN told(1)=2 about(0,2)=1 part(0,0,0)=4",
                "part(0,0,2)=1 about(0,6)=1 about(2,2)=0 about(2,1)=0 keep(4)!OUTSIDE open()=1 part(0,0,2)=3",
                "part(0,0,0)=4 record(2,0)=4");
        Story.run("barrier: power at act 4", three, "power(4) barrier(4)=DOWN told(1)=3 about(2,2)=1 part(2,0,1)=1",
                "part(2,0,2)=0 open()=1 part(0,0,2)=3 part(2,0,2)=0 told(1)=4");
        Story.run("barrier: power at its last act", three, "power(5) barrier(4)=DOWN told(1)=4 part(2,0,1)=2",
                "part(2,0,0)=NONE told(3)=NONE open()=1 about(2,3)=0");
        Story.run("barrier: power behind its last act", three, "power(6) barrier(4)=3 told(5)=0 told(3)=4",
                "keep(4)=DOWN told(2)=NONE told(3)=4 keep(4)!DOWN open()=2 told(3)=NONE keep(4)!OUTSIDE");
    }

    private static void barriersInAll() {
        Story.run("barrier: 200", "output(0)", Story.barriers(0, 198), "told(7)=199 barrier(199)=0 told(7)=200",
                "barrier(200)!ROOM end(200)!ROOM told(7)=200 told(3)=199 told(4)=0 keep(199)=0 barrier(200)!ROOM");
        Story.run("barrier: 200, given up or not", "output(0)", Story.barriers(0, 198), "give(0)=0 told(7)=199",
                "told(3)=NONE barrier(0)=0 give(0)=0 barrier(0)!ROOM end(0)!ROOM told(7)=200");
        Story.run("barrier: 200, with those that opening took", "output(0)", Story.barriers(0, 199), "open()=0",
                "told(7)=200 barrier(0)!ROOM");
        Story.run("barrier: 200, with those at which power failed", "output(0)", Story.barriers(0, 197),
                "write(0,1,1) power(1) barrier(198)=DOWN told(7)=199 open()=0 write(0,1,1) power(1)",
                "barrier(198)=DOWN told(7)=200 open()=0 barrier(198)!ROOM end(198)!ROOM write(0,1,1)=1",
                "barrier(198)!ROOM about(0,1)=1");
        Story.run("barrier: 200, without those refused", "output(0)", Story.barriers(0, 198), "barrier(198)!OUTSIDE",
                Story.numbers("barrier(", -30, -1, ")=OUTSIDE"), "told(7)=199 barrier(199)=0 barrier(200)!ROOM");
        Story.run("end: the 200th", "output(0)", Story.barriers(0, 198), "write(0,1,1) end(199)=1 told(7)=200",
                "told(4)=1");
        Story.run("end: a 201st", "output(0)", Story.barriers(0, 199), "write(0,1,1) end(200)!ROOM told(4)=0",
                "about(0,1)=1");
    }

    private static void partsInAll() {
        Story.run("barrier: 100 parts of one output", "output(0)", Story.parts(0, 1, 99), "write(0,1,1)",
                "barrier(100)=1 about(0,2)=100 write(0,1,1) barrier(101)!ROOM end(101)!ROOM about(0,1)=1",
                "about(0,2)=100 part(0,99,0)=100 part(0,100,0)!UNKNOWN give(101)=1 barrier(101)=0 keep(101)=100");
        Story.run("barrier: 98 parts and two of two outputs", "output(0) output(1)", Story.parts(0, 1, 98),
                "write(0,1,1) write(1,1,1) barrier(99)=2 about(0,2)=99 about(1,2)=1 write(1,1,1) barrier(100)!ROOM",
                "told(7)=99");
        Story.run("barrier: 99 parts and two of two outputs", "output(0) output(1)", Story.parts(0, 1, 99),
                "write(0,1,1) write(1,1,1) barrier(100)!ROOM end(100)!ROOM about(0,1)=1 about(1,1)=1 told(7)=99",
                "give(100)=2 write(1,1,1) end(100)=100 about(1,2)=1");
        Story.run("barrier: 97 parts and three of three outputs", "output(0) output(1) output(0)",
                Story.parts(2, 1, 97), "write(0,1,1) write(1,1,1) write(2,1,1) barrier(98)=3 write(2,1,1)",
                "barrier(99)!ROOM");
        Story.run("barrier: 98 parts and three of three outputs", "output(0) output(1) output(0)",
                Story.parts(2, 1, 98), "write(0,1,1) write(1,1,1) write(2,1,1) barrier(99)!ROOM told(1)=196");
        Story.run("barrier: 100 parts, gone or shown", "output(0)", Story.parts(0, 1, 50), "keep(20)=20 give(21)=30",
                Story.parts(0, 21, 70), "about(0,2)=100 write(0,1,1) barrier(71)!ROOM open()=50 write(0,1,1)",
                "barrier(71)!ROOM");
        Story.run("barrier: 100 parts, one of them not closed", "output(0)", Story.parts(0, 1, 99), "write(0,1,1)",
                "power(2) barrier(100)=DOWN about(0,2)=100 part(0,99,2)=0 open()=99 write(0,1,1) barrier(100)!ROOM");
        Story.run("barrier: a part without a record has no number", "output(0)", Story.parts(0, 1, 99),
                "write(0,1,1) power(1) barrier(100)=DOWN about(0,2)=99 open()=99 write(0,1,1) barrier(100)=1",
                "write(0,1,1) barrier(101)!ROOM");
        Story.run("end: the 100th part", "output(0)", Story.parts(0, 1, 99), "write(0,1,1) end(100)=100 told(4)=1");
    }

    private static void keep() {
        Story.run("keep: a mark of a barrier", "output(0) keep(0)!OUTSIDE write(0,1,1) barrier(0)=1",
                "keep(-1)!OUTSIDE keep(1)!OUTSIDE keep(NONE)!OUTSIDE keep(MIN)!OUTSIDE keep(MAX)!OUTSIDE",
                "told(2)=NONE keep(0)=1 told(2)=0 keep(0)!OUTSIDE told(1)=4");
        Story.run("keep: the greatest mark", "output(0) write(0,1,1) barrier(1000000)=1 keep(999999)!OUTSIDE",
                "keep(1000001)!OUTSIDE keep(1000000)=1 told(2)=1000000 keep(1000000)!OUTSIDE");
        Story.run("keep: between barriers", "output(0) write(0,1,1) barrier(3)=1 write(0,2,2) barrier(5)=1",
                "write(0,3,3) barrier(7)=1 keep(2)!OUTSIDE keep(4)!OUTSIDE keep(6)!OUTSIDE keep(8)!OUTSIDE",
                "keep(5)=2 told(2)=5 about(0,6)=1 keep(3)!OUTSIDE keep(5)!OUTSIDE keep(6)!OUTSIDE keep(7)=1",
                "told(2)=7");
        Story.run("keep: the first of three", "output(0) write(0,1,1) barrier(3)=1 write(0,2,2) barrier(4)=1",
                "write(0,3,3) barrier(5)=1 keep(3)=1 about(0,6)=2 keep(4)=1 about(0,6)=1 keep(5)=1 about(0,6)=0",
                "told(2)=5");
        Story.run("keep: given up", "output(0) write(0,1,1) barrier(3)=1 barrier(4)=0 give(4)=0 keep(4)!OUTSIDE",
                "keep(3)=1");
        Story.run("keep: opened", "output(0) barrier(3)=0 keep(3)=0 write(0,1,1) barrier(4)=1 open()=1",
                "keep(4)!OUTSIDE keep(3)!OUTSIDE");
        Story.run("keep: without rows", "output(0) barrier(3)=0 keep(3)=0 told(1)=1 told(6)=1 record(0,0)=2",
                "record(0,3)=3");
        Story.run("keep: told again", "output(0) write(0,1,1) barrier(3)=1 give(3)=1 write(0,2,2) barrier(3)=1",
                "keep(3)=1 line(0,0,0)=2 line(0,0,2)=1 part(0,0,2)=3 part(0,1,2)=2");
        String two = "output(0) output(1) write(0,1,1) write(0,2,2) write(1,3,3) barrier(5)=3 write(0,4,4) ";
        Story.run("keep: power at act 1", two, "power(1) keep(5)=DOWN told(2)=NONE told(5)=1 about(0,1)=0",
                "keep(5)!DOWN open()=2 about(0,3)=0 told(2)=NONE");
        Story.run("keep: power at act 2", two, "power(2) keep(5)=DOWN told(2)=5 about(0,3)=0 about(0,4)=1",
                "keep(5)!OUTSIDE open()=2 about(0,3)=2 about(1,3)=1");
        Story.run("keep: power at act 4", two, "power(4) keep(5)=DOWN about(0,3)=2 part(0,0,2)=1 about(1,4)=0",
                "told(6)=8 open()=2 about(0,3)=2 about(0,4)=2 about(1,4)=1 told(6)=13 line(0,1,1)=2 line(0,2,1)!NO");
        Story.run("keep: power at act 6", two, "power(6) keep(5)=DOWN part(0,0,2)=2 about(1,3)=1 part(1,0,2)=1",
                "open()=1 about(1,3)=1");
        Story.run("keep: power behind act 6", two, "power(7) keep(5)=3 told(5)=0 about(0,1)=1 barrier(6)=DOWN",
                "about(0,1)=0 about(0,2)=1");
    }

    private static void show() {
        Story.run("show: nothing to show", "show()!0 output(0) show()!0 write(0,1,1) show()!0 barrier(0)=1 show()!0",
                "about(0,4)=0 keep(0)=1 show()!0 about(0,4)=1 about(0,3)=1");
        Story.run("show: not above the mark", "output(0) write(0,1,1) barrier(4)=1 write(0,2,2) barrier(5)=1",
                "write(0,3,3) barrier(6)=1 fails(0,1) keep(5)=0 show()=2 about(0,6)=1 show()!0");
        Story.run("show: gone and not closed parts do not come", "output(0) write(0,1,1) barrier(4)=1 give(4)=1",
                "write(0,2,2) power(2) barrier(4)=DOWN open()=0 write(0,3,3) barrier(4)=1 keep(4)=1 about(0,4)=1",
                "line(0,0,2)=2 show()!0");
        Story.run("show: the other outputs go on", "output(0) output(0) output(0) write(0,1,1) write(1,2,2)",
                "write(2,3,3) barrier(4)=3 fails(1,1) keep(4)=2 about(1,6)=1 show()=1 about(0,4)=1 about(1,4)=2",
                "about(2,4)=1");
        Story.run("show: power", "output(0) write(0,1,1) barrier(4)=1 fails(0,1) keep(4)=0 power(1) show()=DOWN",
                "about(0,3)=0 about(0,4)=2 show()!DOWN open()=1 show()!0");
        Story.run("show: power behind its last act", "output(0) write(0,1,1) barrier(4)=1 fails(0,1) keep(4)=0",
                "power(3) show()=1 told(5)=0");
        Story.run("show: a failing try is no act", "output(0) write(0,1,1) barrier(4)=1 fails(0,2) keep(4)=0",
                "power(1) show()=0 told(5)=0 told(6)=3 about(0,5)=0");
    }

    private static void give() {
        Story.run("give: marks 0 to 1,000,000", "output(0) give(-1)!OUTSIDE give(MIN)!OUTSIDE give(NONE)!OUTSIDE",
                "give(1000001)!OUTSIDE give(MAX)!OUTSIDE write(0,1,1) give(0)=1 write(0,1,1) give(1000000)=1",
                "about(0,1)=0 give(0)!0");
        Story.run("give: a refused one leaves the open part", "output(0) write(0,1,1) give(-1)!OUTSIDE",
                "give(1000001)!OUTSIDE about(0,1)=1");
        Story.run("give: above the mark", "output(0) barrier(5)=0 keep(5)=0 write(0,1,1)=1 give(4)!OUTSIDE",
                "give(5)!OUTSIDE give(0)!OUTSIDE about(0,1)=1 give(6)=1 about(0,1)=0");
        Story.run("give: nothing is above the greatest mark", "output(0) barrier(1000000)=0 keep(1000000)=0",
                "give(1000000)!OUTSIDE give(1000001)!OUTSIDE give(999999)!OUTSIDE");
        Story.run("give: all but the mark 0", "output(0) write(0,1,1) barrier(0)=1 keep(0)=1 give(0)!OUTSIDE",
                "write(0,2,2) barrier(1)=1 give(1)=1");
        String three = "output(0) write(0,1,1) barrier(4)=1 2*write(0,2,2) barrier(6)=2 "
                + "3*write(0,3,3) barrier(8)=3 4*write(0,4,4) ";
        Story.run("give: from below the first", three, "give(3)=10 part(0,0,2)=3 part(0,1,2)=3 part(0,2,2)=3",
                "about(0,1)=0");
        Story.run("give: from the first", three, "give(4)=10 part(0,0,2)=3 told(1)=12");
        Story.run("give: from above the first", three, "give(5)=9 part(0,0,2)=1 part(0,1,2)=3 part(0,2,2)=3",
                "told(1)=11");
        Story.run("give: from the second", three, "give(6)=9 part(0,0,2)=1 part(0,1,2)=3");
        Story.run("give: from above the second", three, "give(7)=7 part(0,1,2)=1 part(0,2,2)=3");
        Story.run("give: from the last", three, "give(8)=7 part(0,1,2)=1 part(0,2,2)=3 about(0,6)=2 keep(6)=3");
        Story.run("give: from above the last", three, "give(9)=4 part(0,2,2)=1 told(1)=9 give(9)!0");
        Story.run("give: what is gone is not gone again", three, "give(6)=9 give(4)=1 told(1)=12 give(0)!0");
        Story.run("give: what waits at the mark stays", three, "fails(0,1) keep(6)=0 give(7)=7 part(0,0,2)=1",
                "part(0,1,2)=1 show()=3");
    }

    private static void giveAndBarriers() {
        String four = "output(0) barrier(3)=0 barrier(5)=0 barrier(7)=0 barrier(9)=0 ";
        Story.run("give: barriers from it on", four, "give(7)=0 told(3)=5 keep(7)!OUTSIDE keep(9)!OUTSIDE keep(5)=0");
        Story.run("give: between barriers", four, "give(6)=0 told(3)=5 keep(7)!OUTSIDE barrier(6)=0 told(3)=6");
        Story.run("give: below a barrier that stays", four, "give(8)=0 told(3)=7 keep(7)=0");
        Story.run("give: above all", four, "give(10)!0 told(3)=9 keep(9)=0");
        Story.run("give: all of them", four, "give(0)=0 told(3)=NONE keep(3)!OUTSIDE barrier(0)=0");
        Story.run("give: down to the mark", four, "keep(5)=0 give(6)=0 told(3)=5 barrier(5)!OUTSIDE barrier(6)=0");
        String parts = "output(0) output(1) write(0,1,1) write(1,1,1) barrier(4)=2 write(0,2,2) write(1,2,2) ";
        Story.run("give: power at act 1", parts, "power(1) give(4)=DOWN told(5)=1 part(0,0,2)=1 part(1,0,2)=1",
                "about(0,1)=0 about(1,1)=0 give(4)!DOWN give(-1)!OUTSIDE open()=2 told(3)=NONE");
        Story.run("give: power at act 2", parts, "power(2) give(4)=DOWN part(0,0,2)=3 part(1,0,2)=1 about(1,1)=0",
                "open()=1 part(1,0,2)=3");
        Story.run("give: power behind its last act", parts, "power(3) give(4)=4 told(5)=0 write(0,1,1)",
                "barrier(4)=DOWN about(0,2)=1");
        Story.run("give: open parts are no act", parts, "power(1) give(5)=2 told(5)=0 about(0,1)=0 about(1,1)=0",
                "keep(4)=DOWN");
        Story.run("give: behind the end", "output(0) end(4)=0 give(4)!OUTSIDE give(5)!0 told(4)=1 told(3)=4");
    }

    private static void end() {
        Story.run("end: marks 0 to 1,000,000", "output(0) end(-1)!OUTSIDE end(MIN)!OUTSIDE end(NONE)!OUTSIDE",
                "end(1000001)!OUTSIDE end(MAX)!OUTSIDE told(4)=0 end(0)=0 told(4)=1 told(2)=0 told(3)=0");
        Story.run("end: the greatest mark", "output(0) write(0,1,1) end(1000000)=1 told(2)=1000000",
                "end(1000001)!OUTSIDE end(1000000)!OUTSIDE barrier(1000000)!OUTSIDE give(1000000)!OUTSIDE",
                "keep(1000000)!OUTSIDE");
        Story.run("end: above those before", "output(0) barrier(7)=0 write(0,1,1) end(6)!OUTSIDE end(7)!OUTSIDE",
                "about(0,1)=1 end(8)=1");
        Story.run("end: above the mark", "output(0) barrier(7)=0 keep(7)=0 open()=0 end(7)!OUTSIDE end(6)!OUTSIDE",
                "end(8)=0");
        Story.run("end: a mark given up", "output(0) barrier(7)=0 give(7)=0 end(7)=0 told(7)=2");
        Story.run("end: nothing behind it", "output(0) end(3)=0 write(0,1,1)!STATE barrier(4)!STATE end(4)!STATE",
                "output(0)!STATE keep(3)!OUTSIDE keep(4)!OUTSIDE show()!0 give(4)!0 open()!0 barrier(4)!STATE",
                "end(1000000)!STATE told(7)=1");
        Story.run("end: with the parts that waited", "output(0) output(1) write(0,1,1) barrier(3)=1 write(0,2,2)",
                "write(1,2,2) end(4)=3 about(0,3)=2 about(1,3)=1 told(2)=4 record(6,0)=5 record(6,3)=4");
        Story.run("end: tries that fail", "output(0) write(0,1,1) fails(0,1) end(4)=0 told(4)=1 about(0,6)=1",
                "show()=1");
        String row = "output(0) write(0,1,1) ";
        Story.run("end: power at act 1", row, "power(1) end(4)=DOWN told(6)=0 told(5)=1 told(1)=0 told(0)=1",
                "told(8)=0 told(4)=0 told(7)=1 end(4)!DOWN open()=0 write(0,1,1) end(4)=1");
        Story.run("end: power at act 2", row, "power(2) end(4)=DOWN told(6)=1 told(5)=1 told(1)=1 told(4)=0",
                "part(0,0,2)=0 open()=0 told(4)=0 end(4)=0");
        Story.run("end: power at act 3", row, "power(3) end(4)=DOWN told(6)=2 told(5)=1 told(1)=2 told(4)=0",
                "told(2)=NONE part(0,0,2)=1 open()=1 part(0,0,2)=3 told(4)=0 told(3)=NONE write(0,2,2) end(4)=1",
                "told(7)=2");
        Story.run("end: power at act 4", row, "power(4) end(4)=DOWN told(6)=3 told(5)=1 told(4)=1 told(2)=4",
                "about(0,3)=0 end(5)!DOWN end(4)!OUTSIDE open()=1 told(4)=1 about(0,3)=1 end(5)!STATE");
        Story.run("end: power at act 5", row, "power(5) end(4)=DOWN told(6)=4 told(5)=1 told(4)=1 about(0,3)=1",
                "part(0,0,2)=1 open()=1 about(0,3)=1");
        Story.run("end: power behind its last act", row, "power(6) end(4)=1 told(5)=0 told(6)=5");
    }

    private static void fails() {
        Story.run("fails: 0 to 100", "output(0) fails(0,-1)!OUTSIDE fails(0,0)!0 fails(0,1)=0 fails(0,0)=1",
                "fails(0,99)=0 fails(0,100)=99 fails(0,101)!OUTSIDE fails(0,MIN)!OUTSIDE fails(0,MAX)!OUTSIDE",
                "fails(0,NONE)!OUTSIDE about(0,5)=100 fails(0,100)!100");
        Story.run("fails: outputs", "fails(0,1)!UNKNOWN output(0) fails(0,1)=0 fails(1,1)!UNKNOWN output(1)",
                "fails(1,2)=0 output(1) fails(2,3)=0 fails(3,1)!UNKNOWN fails(-1,1)!UNKNOWN fails(MIN,1)!UNKNOWN",
                "fails(MAX,1)!UNKNOWN about(0,5)=1 about(1,5)=2 about(2,5)=3");
        Story.run("fails: none", "output(0) write(0,1,1) barrier(1)=1 fails(0,1)=0 fails(0,0)=1 keep(1)=1",
                "about(0,4)=1 about(0,5)=0");
        Story.run("fails: one", "output(0) write(0,1,1) barrier(1)=1 fails(0,1)=0 keep(1)=0 about(0,4)=1",
                "about(0,5)=0 show()=1 about(0,4)=2");
        Story.run("fails: 100", "output(0) write(0,1,1) barrier(1)=1 fails(0,100)=0 keep(1)=0 98*show()",
                "about(0,5)=1 show()=0 about(0,5)=0 about(0,4)=100 about(0,3)=0 show()=1 about(0,4)=101",
                "part(0,0,2)=2");
        Story.run("fails: the later word counts", "output(0) write(0,1,1) barrier(1)=1 fails(0,5)=0 keep(1)=0",
                "fails(0,1)=4 show()=0 show()=1");
        Story.run("fails: no part, no try", "output(0) fails(0,1)=0 show()=0 barrier(1)=0 keep(1)=0 open()=0",
                "about(0,5)=1 about(0,4)=0");
        Story.run("fails: another output", "output(0) output(0) write(1,1,1) barrier(1)=1 fails(0,1)=0 keep(1)=1",
                "about(0,5)=1");
        Story.run("fails: the parts behind wait", "output(0) write(0,1,1) barrier(1)=1 write(0,2,2) barrier(2)=1",
                "fails(0,1)=0 keep(2)=0 about(0,4)=1 about(0,6)=2 show()=2 about(0,4)=3");
        Story.run("fails: it stays while power is not there", "output(0) write(0,1,1) barrier(1)=1 fails(0,2)=0",
                "power(1) keep(1)=DOWN about(0,5)=2 fails(0,3)=2 open()=1 about(0,5)=3 about(0,4)=0");
        Story.run("fails: opening tries, too", "output(0) write(0,1,1) barrier(1)=1 power(2) keep(1)=DOWN",
                "fails(0,1)=0 open()=0 about(0,5)=0 about(0,4)=2 open()=1 about(0,4)=3");
        Story.run("fails: behind the end", "output(0) end(1)=0 fails(0,4)=0 about(0,5)=4");
    }

    private static void power() {
        Story.run("power: 1 to 5,000", "output(0) power(0)!OUTSIDE power(1)=1 power(-1)!OUTSIDE power(5000)=1",
                "power(5001)!OUTSIDE power(MIN)!OUTSIDE power(MAX)!OUTSIDE power(-5)!OUTSIDE power(-7)!OUTSIDE",
                "power(4999)=1 power(2)=1 power(NONE)=1");
        Story.run("power: a refused one does not stop it", "output(0) write(0,1,1) power(2)=1 power(0)!OUTSIDE",
                "power(5001)!OUTSIDE barrier(0)=DOWN told(6)=1 told(5)=1");
        Story.run("power: NONE stops it", "output(0) write(0,1,1) power(1)=1 power(NONE)=1 barrier(0)=1 keep(0)=1",
                "told(5)=0");
        Story.run("power: no act, no failure", "output(0) output(1) power(1)=1 write(0,1,1)=1 fails(0,1)=0",
                "barrier(-1)!OUTSIDE reader(0)=0 read(0,1)=0 show()=0 give(9)=1 barrier(0)=0 told(5)=0 keep(0)=DOWN",
                "told(5)=1 told(6)=0 told(2)=NONE");
        Story.run("power: acts of several calls", "output(0) write(0,1,1) power(6)=1 barrier(0)=1 keep(0)=1",
                "told(5)=0 told(6)=5 write(0,1,1) barrier(1)=DOWN told(6)=5");
        Story.run("power: the last act of several calls", "output(0) write(0,1,1) power(5)=1 barrier(0)=1",
                "keep(0)=DOWN told(6)=4 part(0,0,2)=1");
        Story.run("power: the later word counts", "output(0) write(0,1,1) power(1)=1 power(3)=1 barrier(0)=1",
                "keep(0)=DOWN");
        Story.run("power: counted from the later word on", "output(0) write(0,1,1) power(3)=1 barrier(0)=1",
                "power(3)=1 keep(0)=DOWN told(6)=4");
        Story.run("power: while it is not there", "output(0) write(0,1,1) power(1)=1 barrier(0)=DOWN power(1)!DOWN",
                "power(NONE)!DOWN power(5000)!DOWN power(0)!OUTSIDE open()=0 write(0,1,1) barrier(0)=1 told(5)=0");
        Story.run("power: opening stops it", "output(0) write(0,1,1) barrier(0)=1 power(1)=1 open()=1 told(5)=0",
                "write(0,1,1) barrier(0)=1");
        String many = "output(0) " + Story.numbers("20*write(0,1,1) barrier(", 1, 15, ")=20");
        Story.run("power: many acts, at the last", "power(631)=1", many, "told(6)=315 keep(15)=DOWN told(6)=630",
                "told(5)=1 part(0,14,2)=1 about(0,3)=300");
        Story.run("power: many acts, behind the last", "power(632)=1", many, "keep(15)=300 told(6)=631 told(5)=0",
                "part(0,14,2)=2");
        Story.run("power: 5,000 is far", "power(5000)=1", many, "keep(15)=300 told(5)=0");
        Story.run("power: a dropped row is an act", "output(0) 2*write(0,1,1) barrier(1)=2 power(4) keep(1)=DOWN",
                "fails(0,1) open()=0 told(6)=6 power(2) show()=DOWN told(6)=7 about(0,3)=2 about(0,4)=3");
        Story.run("power: all open parts are empty", "output(0) output(1) output(0) write(0,1,1) write(1,1,1)",
                "write(2,1,1) barrier(1)=3 write(0,1,1) 2*write(1,1,1) 20*write(2,1,1) power(1) keep(1)=DOWN",
                "about(0,1)=0 about(1,1)=0 about(2,1)=0");
    }

    private static void open() {
        Story.run("open: nothing to settle", "open()!0 output(0) open()!0 write(0,1,1) open()=0 about(0,1)=0",
                "barrier(0)=0 open()=0 told(3)=NONE open()!0");
        Story.run("open: parts at the mark and above it", "output(0) write(0,1,1) barrier(4)=1 write(0,2,2)",
                "barrier(5)=1 write(0,3,3) barrier(6)=1 fails(0,1) keep(5)=0 open()=3 part(0,0,2)=2 part(0,1,2)=2",
                "part(0,2,2)=3 record(7,0)=4 record(8,0)=3 record(9,0)=3 told(1)=10 open()!0");
        Story.run("open: the mark NONE", "output(0) write(0,1,1) barrier(0)=1 open()=1 part(0,0,2)=3 told(2)=NONE",
                "told(3)=NONE open()!0");
        Story.run("open: the mark 0", "output(0) write(0,1,1) barrier(0)=1 keep(0)=1 write(0,1,1) barrier(1)=1",
                "open()=1 part(0,1,2)=3 told(3)=0 told(2)=0");
        Story.run("open: the greatest mark", "output(0) write(0,1,1) barrier(999999)=1 write(0,1,1)",
                "barrier(1000000)=1 fails(0,1) keep(1000000)=0 open()=2 part(0,0,2)=2 part(0,1,2)=2 told(2)=1000000",
                "told(3)=1000000");
        Story.run("open: gone parts of all outputs first", "output(0) output(0) write(0,1,1) write(1,1,1)",
                "barrier(1)=2 power(2) keep(1)=DOWN open()=2 record(5,0)=3 record(5,1)=0 record(6,1)=1 told(6)=9");
        Story.run("open: a number that a record has is not given again", "output(0) 2*write(0,1,1) power(2)",
                "barrier(1)=DOWN open()=0 about(0,2)=1 2*write(0,2,2) power(1) barrier(1)=DOWN open()=0",
                "about(0,2)=1 write(0,3,3) barrier(1)=1 about(0,2)=2 part(0,1,1)=1 keep(1)=1 line(0,0,2)=1",
                "line(0,0,3)=0 part(0,0,2)=0 part(0,0,1)=1 about(0,6)=0");
        Story.run("open: readers and tries stay", "output(0) reader(0)=0 2*write(0,1,1) barrier(1)=2 keep(1)=2",
                "read(0,1)=1 write(0,2,2) fails(0,2)=0 power(1) barrier(2)=DOWN read(0,1)=1 seen(0,1)=2 open()=0",
                "told(8)=1 seen(0,NONE)=2 about(0,5)=2 read(0,100)=0");
        Story.run("open: rows that are there already are dropped", "output(0) 3*write(0,1,1) barrier(1)=3 power(4)",
                "keep(1)=DOWN about(0,3)=2 open()=1 about(0,3)=3 line(0,2,3)=2 told(6)=11");
        Story.run("open: barriers made stay made", "output(0) barrier(1)=0 barrier(2)=0 keep(1)=0 open()=0",
                "told(7)=2 told(3)=1 barrier(2)=0 told(7)=3");
        Story.run("open: it was the end", "output(0) write(0,1,1) power(4) end(1)=DOWN told(4)=1 open()=1 told(4)=1",
                "open()!0 told(4)=1");
        Story.run("open: it was not the end", "output(0) write(0,1,1) power(3) end(1)=DOWN told(4)=0 open()=1",
                "told(4)=0 write(0,1,1)=1");
    }
}
