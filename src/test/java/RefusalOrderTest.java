/**
 * "Of those that a comment names the first counts": for each call with several refusals each two of them that can be
 * due at once, and that nothing changes by it. Not told here, since they cannot be due at once: a full OPEN PART with
 * DOWN or with THE END (it is empty then), and DOWN without a BARRIER made (without one there is no ACT to fail at).
 */
public final class RefusalOrderTest {
    /** Without power, behind one barrier with mark 5 that is kept and one with mark 7. */
    private static final String DOWN = "output(0) output(1) write(0,1,1) barrier(5)=1 keep(5)=1 barrier(7)=0 "
            + "write(0,2,2) power(1) barrier(8)=DOWN ";
    /** Without power, and it was the end, with mark 5. */
    private static final String DOWN_BEHIND_THE_END = "output(0) output(1) write(0,1,1) power(4) end(5)=DOWN "
            + "told(4)=1 ";
    private static final String THE_END = "output(0) output(1) write(0,1,1) end(5)=1 ";

    public static void main(String[] args) {
        output();
        write();
        barrierAndEnd("barrier");
        barrierAndEnd("end");
        keepAndGive();
        failsAndPower();
        asking();
        readers();
        Due.end("RefusalOrderTest");
    }

    private static void output() {
        String three = "output(0) output(1) output(0) ";
        Story.run("output: OUTSIDE, DOWN", DOWN, "output(2)!OUTSIDE output(-1)!OUTSIDE output(0)!DOWN");
        Story.run("output: OUTSIDE, STATE", "output(0) barrier(0)=0 output(2)!OUTSIDE output(-1)!OUTSIDE",
                "output(0)!STATE");
        Story.run("output: OUTSIDE, ROOM", three, "output(2)!OUTSIDE output(-1)!OUTSIDE output(0)!ROOM");
        Story.run("output: DOWN, STATE", DOWN, "told(0)=2 told(7)=3 output(0)!DOWN output(1)!DOWN open()",
                "output(0)!STATE");
        Story.run("output: DOWN, STATE, ROOM", three, "write(0,1,1) power(1) barrier(0)=DOWN output(0)!DOWN open()",
                "output(0)!STATE");
        Story.run("output: STATE, ROOM", three, "barrier(0)=0 output(0)!STATE output(1)!STATE");
    }

    private static void write() {
        Story.run("write: UNKNOWN, OUTSIDE", "output(0) write(1,10,0)!UNKNOWN write(-1,-1,0)!UNKNOWN",
                "write(0,10,0)!OUTSIDE");
        Story.run("write: UNKNOWN, DOWN", DOWN, "write(2,0,0)!UNKNOWN write(-1,10,0)!UNKNOWN write(0,0,0)!DOWN");
        Story.run("write: UNKNOWN, STATE", THE_END, "write(2,0,0)!UNKNOWN write(-1,10,0)!UNKNOWN write(0,0,0)!STATE");
        Story.run("write: OUTSIDE, DOWN", DOWN, "write(0,10,0)!OUTSIDE write(1,-1,0)!OUTSIDE write(1,9,0)!DOWN");
        Story.run("write: OUTSIDE, STATE", THE_END, "write(0,10,0)!OUTSIDE write(1,-1,0)!OUTSIDE write(1,9,0)!STATE");
        Story.run("write: OUTSIDE, ROOM", "output(0) 20*write(0,1,1) write(0,10,0)!OUTSIDE write(0,-1,0)!OUTSIDE",
                "write(0,9,0)!ROOM");
        Story.run("write: DOWN, STATE", DOWN_BEHIND_THE_END, "write(0,0,0)!DOWN write(1,0,0)!DOWN",
                "write(0,10,0)!OUTSIDE write(2,0,0)!UNKNOWN open()=1 write(0,0,0)!STATE");
    }

    /** The end is refused as a barrier is. */
    private static void barrierAndEnd(String name) {
        String call = name + "(";
        Story.run(name + ": OUTSIDE, DOWN", DOWN, call + "7)!OUTSIDE", call + "5)!OUTSIDE", call + "-1)!OUTSIDE",
                call + "1000001)!OUTSIDE", call + "8)!DOWN");
        Story.run(name + ": OUTSIDE, STATE", THE_END, call + "5)!OUTSIDE", call + "4)!OUTSIDE", call + "-1)!OUTSIDE",
                call + "1000001)!OUTSIDE", call + "6)!STATE");
        Story.run(name + ": OUTSIDE, ROOM of barriers", "output(0)", Story.barriers(0, 199), call + "199)!OUTSIDE",
                call + "-1)!OUTSIDE", call + "1000001)!OUTSIDE", call + "200)!ROOM");
        Story.run(name + ": OUTSIDE, ROOM of parts", "output(0)", Story.parts(0, 0, 99), "write(0,1,1)=1",
                call + "99)!OUTSIDE", call + "-1)!OUTSIDE", call + "1000001)!OUTSIDE", call + "100)!ROOM");
        Story.run(name + ": DOWN, STATE", DOWN_BEHIND_THE_END, call + "6)!DOWN", call + "5)!OUTSIDE open()=1",
                call + "6)!STATE");
        Story.run(name + ": DOWN, ROOM", "output(0)", Story.barriers(0, 198), "write(0,1,1) power(1)",
                "barrier(199)=DOWN told(7)=200", call + "199)!DOWN", call + "198)!OUTSIDE", "open()=0",
                call + "199)!ROOM");
        Story.run(name + ": STATE, ROOM", "output(0)", Story.barriers(0, 198), "end(199)=0 told(7)=200",
                call + "200)!STATE", call + "199)!OUTSIDE");
        Story.run(name + ": DOWN, STATE, ROOM", "output(0)", Story.barriers(0, 198), "write(0,1,1) power(4)",
                "end(199)=DOWN told(7)=200 told(4)=1", call + "200)!DOWN open()=1", call + "200)!STATE");
    }

    private static void keepAndGive() {
        Story.run("keep: OUTSIDE, DOWN", DOWN, "keep(5)!OUTSIDE keep(6)!OUTSIDE keep(8)!OUTSIDE keep(-1)!OUTSIDE",
                "keep(NONE)!OUTSIDE keep(7)!DOWN");
        Story.run("give: OUTSIDE, DOWN", DOWN, "give(5)!OUTSIDE give(4)!OUTSIDE give(-1)!OUTSIDE",
                "give(1000001)!OUTSIDE give(6)!DOWN give(7)!DOWN give(1000000)!DOWN");
        Story.run("show: DOWN", DOWN, "show()!DOWN show()!DOWN open()=0 show()!0");
    }

    private static void failsAndPower() {
        Story.run("fails: UNKNOWN, OUTSIDE", "fails(0,101)!UNKNOWN output(0) fails(1,101)!UNKNOWN",
                "fails(-1,-1)!UNKNOWN fails(0,101)!OUTSIDE fails(0,-1)!OUTSIDE");
        Story.run("fails: not DOWN", DOWN, "fails(2,101)!UNKNOWN fails(0,101)!OUTSIDE fails(0,0)!0 fails(0,3)=0");
        Story.run("power: OUTSIDE, DOWN", DOWN, "power(0)!OUTSIDE power(5001)!OUTSIDE power(-5)!OUTSIDE",
                "power(-7)!OUTSIDE power(1)!DOWN power(5000)!DOWN power(NONE)!DOWN");
    }

    private static void asking() {
        Story.run("about: UNKNOWN, OUTSIDE", "about(0,7)!UNKNOWN output(0) about(1,7)!UNKNOWN about(-1,-1)!UNKNOWN",
                "about(0,7)!OUTSIDE");
        Story.run("part: UNKNOWN, OUTSIDE", "output(0) part(0,0,3)!UNKNOWN write(0,1,1) barrier(0)=1",
                "part(0,1,3)!UNKNOWN part(0,-1,-1)!UNKNOWN part(1,0,3)!UNKNOWN part(0,0,3)!OUTSIDE");
        Story.run("record: UNKNOWN, OUTSIDE", "record(0,5)!UNKNOWN output(0) write(0,1,1) barrier(0)=1",
                "record(2,5)!UNKNOWN record(-1,-1)!UNKNOWN record(1,5)!OUTSIDE");
    }

    private static void readers() {
        Story.run("reader: UNKNOWN, ROOM", "output(0) output(1) 4*reader(0) reader(2)!UNKNOWN reader(-1)!UNKNOWN",
                "reader(0)!ROOM");
        Story.run("reader: STATE, ROOM", "output(0) output(1) 3*reader(0) reader(1)!STATE reader(0)=3",
                "reader(1)!STATE reader(0)!ROOM");
        Story.run("read: UNKNOWN, OUTSIDE", "output(0) read(0,0)!UNKNOWN reader(0)=0 read(1,0)!UNKNOWN",
                "read(-1,101)!UNKNOWN read(0,0)!OUTSIDE read(0,101)!OUTSIDE");
        Story.run("seen: UNKNOWN, OUTSIDE", "output(0) seen(0,10)!UNKNOWN reader(0)=0 seen(1,10)!UNKNOWN",
                "seen(-1,-1)!UNKNOWN seen(0,10)!OUTSIDE seen(0,-1)!OUTSIDE");
    }
}
