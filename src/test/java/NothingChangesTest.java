/**
 * "What is refused changes nothing", and nothing is changed by asking: every refusal of every call, and every question,
 * in objects in which there is much to change: rows in OPEN PARTS, PARTS that wait at THE MARK and above it, TRIES that
 * are to fail, readers on their way, and power that is to fail soon.
 */
public final class NothingChangesTest {
    /** Ahead of any barrier, with all the outputs that there may be. */
    private static final String FIRST = "output(0)=0 output(1)=1 output(0)=2 reader(0)=0 fails(0,2)=0 fails(1,1)=0 "
            + "write(0,1,11) write(0,2,12) write(1,3,13) write(2,4,14) power(3)=1 ";
    private static final String SHOWN_AND_WAITING = "output(0)=0 output(1)=1 output(0)=2 reader(0)=0 reader(2)=1 "
            + "write(0,1,11) write(0,2,12) write(1,3,13) write(2,4,14) write(2,5,15) barrier(10)=5 keep(10)=5 read(0,1)=1 "
            + "write(0,6,21) write(1,7,22) write(2,8,23) barrier(20)=3 fails(0,2)=0 fails(1,3)=0 fails(2,1)=0 keep(20)=0 ";
    private static final String OPEN_ROWS = "write(0,0,51) write(0,9,52) write(1,5,53) write(2,7,54) ";
    /** The mark is 20, and there are barriers with 30 and 40. */
    private static final String RICH = SHOWN_AND_WAITING + "write(0,3,31) write(2,3,32) barrier(30)=2 write(1,4,41) "
            + "barrier(40)=1 " + OPEN_ROWS;
    private static final String UP = RICH + "power(9)=1 ";
    private static final String DOWN = RICH + "power(4)=1 barrier(50)=DOWN ";
    private static final String THE_END = SHOWN_AND_WAITING + "write(0,3,31) end(50)=1 power(2)=1 ";
    private static final String DOWN_BEHIND_THE_END = SHOWN_AND_WAITING + "write(0,3,31) power(4)=1 end(50)=DOWN "
            + "told(4)=1 ";

    public static void main(String[] args) {
        always("up", UP);
        always("down", DOWN);
        always("the end", THE_END);
        always("down behind the end", DOWN_BEHIND_THE_END);
        whileUp();
        whileDown();
        behindTheEnd();
        withoutRoom();
        Due.end("NothingChangesTest");
    }

    /** Each call on objects of the story alone. */
    private static void each(String title, String story, String... calls) {
        for (String text : calls) {
            for (String call : text.trim().split(" ")) Story.run("nothing changes, " + title, story, call);
        }
    }

    /** What is refused, or only asked, whatever state it is in. */
    private static void always(String title, String story) {
        each(title, story, "output(-1)!OUTSIDE output(2)!OUTSIDE write(-1,0,0)!UNKNOWN write(3,0,0)!UNKNOWN",
                "write(0,-1,0)!OUTSIDE write(0,10,0)!OUTSIDE barrier(-1)!OUTSIDE barrier(20)!OUTSIDE barrier(19)!OUTSIDE",
                "barrier(1000001)!OUTSIDE end(-1)!OUTSIDE end(20)!OUTSIDE end(1000001)!OUTSIDE keep(-1)!OUTSIDE",
                "keep(10)!OUTSIDE keep(20)!OUTSIDE keep(25)!OUTSIDE keep(60)!OUTSIDE give(-1)!OUTSIDE give(20)!OUTSIDE",
                "give(10)!OUTSIDE give(1000001)!OUTSIDE fails(-1,0)!UNKNOWN fails(3,0)!UNKNOWN fails(0,-1)!OUTSIDE",
                "fails(0,101)!OUTSIDE power(0)!OUTSIDE power(5001)!OUTSIDE power(-7)!OUTSIDE about(-1,0)!UNKNOWN",
                "about(3,0)!UNKNOWN about(0,-1)!OUTSIDE about(1,7)!OUTSIDE part(-1,0,0)!UNKNOWN part(3,0,0)!UNKNOWN",
                "part(0,-1,0)!UNKNOWN part(0,9,0)!UNKNOWN part(0,0,-1)!OUTSIDE part(1,0,3)!OUTSIDE line(-1,0,0)!NO",
                "line(3,0,0)!NO line(1,0,0)!NO line(0,-1,0)!NO line(0,99,0)!NO line(0,0,-1)!NO line(0,0,4)!NO",
                "last(-1,0,0)!NO last(3,0,0)!NO last(0,1,0)!NO last(1,-1,0)!NO last(1,10,0)!NO last(1,9,0)!NO",
                "last(1,3,-1)!NO last(1,3,3)!NO reader(-1)!UNKNOWN reader(3)!UNKNOWN reader(1)!STATE read(-1,1)!UNKNOWN",
                "read(2,1)!UNKNOWN read(0,0)!OUTSIDE read(1,101)!OUTSIDE seen(-1,0)!UNKNOWN seen(2,0)!UNKNOWN",
                "seen(0,-1)!OUTSIDE seen(0,10)!OUTSIDE record(-1,0)!UNKNOWN record(99,0)!UNKNOWN record(0,-1)!OUTSIDE",
                "record(1,5)!OUTSIDE told(-1)!OUTSIDE told(9)!OUTSIDE audit()!0");
        each(title, story, Story.numbers("about(0,", 0, 6, ")?"), Story.numbers("about(1,", 0, 6, ")?"),
                Story.numbers("part(0,0,", 0, 2, ")?"), Story.numbers("part(2,1,", 0, 2, ")?"),
                Story.numbers("line(0,1,", 0, 3, ")?"), Story.numbers("last(1,3,", 0, 2, ")?"),
                Story.numbers("seen(0,", 0, 9, ")?"), "seen(0,NONE)?", Story.numbers("record(0,", 0, 4, ")?"),
                Story.numbers("told(", 0, 8, ")?"));
    }

    private static void whileUp() {
        each("up", UP, "output(0)!STATE output(1)!STATE barrier(40)!OUTSIDE barrier(30)!OUTSIDE end(40)!OUTSIDE");
        each("full of outputs", FIRST, "output(0)!ROOM output(1)!ROOM output(2)!OUTSIDE keep(0)!OUTSIDE",
                "barrier(-1)!OUTSIDE write(3,0,0)!UNKNOWN record(0,0)!UNKNOWN part(0,0,0)!UNKNOWN line(0,0,0)!NO");
        each("an open part is full", UP + "18*write(0,8,55) ", "write(0,1,1)!ROOM write(0,9,9)!ROOM");
        each("four readers", UP + "reader(0)=2 reader(2)=3 read(2,1)=1 ", "reader(0)!ROOM reader(2)!ROOM reader(1)!STATE");
    }

    private static void whileDown() {
        each("down", DOWN, "output(0)!DOWN output(1)!DOWN write(0,0,0)!DOWN write(2,9,1)!DOWN barrier(50)!DOWN",
                "barrier(1000000)!DOWN keep(30)!DOWN keep(40)!DOWN keep(50)!OUTSIDE show()!DOWN give(21)!DOWN",
                "give(30)!DOWN give(1000000)!DOWN end(50)!DOWN end(1000000)!DOWN power(1)!DOWN power(5000)!DOWN",
                "power(NONE)!DOWN barrier(40)!OUTSIDE end(40)!OUTSIDE");
        each("down with four readers", DOWN + "reader(0)=2 reader(2)=3 read(2,1)=1 ", "reader(0)!ROOM reader(1)!STATE");
        each("down behind the end", DOWN_BEHIND_THE_END, "output(0)!DOWN write(0,0,0)!DOWN barrier(51)!DOWN",
                "end(51)!DOWN show()!DOWN give(51)!DOWN keep(50)!OUTSIDE power(1)!DOWN barrier(50)!OUTSIDE");
    }

    private static void behindTheEnd() {
        each("the end", THE_END, "output(0)!STATE write(0,0,0)!STATE write(2,9,1)!STATE barrier(51)!STATE",
                "barrier(1000000)!STATE end(51)!STATE barrier(50)!OUTSIDE end(50)!OUTSIDE keep(50)!OUTSIDE",
                "give(50)!OUTSIDE");
    }

    private static void withoutRoom() {
        String barriers = SHOWN_AND_WAITING + Story.barriers(21, 218) + OPEN_ROWS + "told(7)=200 power(3)=1 ";
        each("200 barriers", barriers, "barrier(219)!ROOM end(219)!ROOM barrier(1000000)!ROOM barrier(218)!OUTSIDE");
        String parts = SHOWN_AND_WAITING + Story.parts(1, 21, 112) + OPEN_ROWS + "about(1,2)=94 power(3)=1 ";
        each("98 parts and three more", parts, "barrier(113)!ROOM end(113)!ROOM barrier(112)!OUTSIDE");
    }
}
