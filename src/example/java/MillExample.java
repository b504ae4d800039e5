/** A small mill, as README.md shows it. */
public final class MillExample {
    public static void main(String[] args) {
        RopeTimes mill = new RopeTimes();
        int sails = mill.turn();
        int stones = mill.turn();
        int ahead = mill.tie(sails, stones, -5);
        System.out.println("the sails turn at " + mill.about(sails, 2) + ", the stones at " + mill.about(stones, 2));
        System.out.println("at the latest, if all is over by 40, the stones turn at " + mill.late(stones, 40));
        int behind = mill.tie(stones, sails, 9);
        System.out.println("the second rope could be " + mill.room(behind) + " long");
        mill.cut(behind, 4);
        System.out.println("cut to 4, there is a timetable: " + mill.holds());
        System.out.println("so many ropes has the ring that is too short: " + mill.count(6));
        System.out.println("best let out is rope " + mill.advise());
        try {
            mill.room(ahead);
        } catch (IllegalStateException e) {
            System.out.println("room() throws: " + e.getMessage());
        }
    }
}
