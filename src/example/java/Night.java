/** A night at anchor, as README.md shows it. */
public final class Night {
    private Night() {
    }

    public static void main(String[] args) {
        AnchorThatDrags bay = new AnchorThatDrags();
        int boat = bay.boat(0, 340, 44, 15);  // a plain boat of area 3, heavy 4, its anchor in cell 44, 15 out
        bay.blow(3, 1, 60);                   // in hour 3 the wind is 60 strong
        System.out.println("boat " + boat + " drags " + bay.night(12, boat, 1) + " time(s), first in hour "
            + bay.night(12, boat, 2) + ", and ends in cell " + bay.night(12, boat, 0));

        // another law: its text comes onto the tape, up to five bytes a call, and is read from there
        String law = "pull wind * 2; hold 100 + out; jerk 0;";
        for (int k = 0; k < law.length(); k++) {
            bay.feed(1, law.charAt(k), 0, 0, 0, 0);
        }
        int text = bay.text();
        if (text >= 0) {
            bay.force(text);
        }
        System.out.println("by text " + text + " it drags " + bay.night(12, boat, 1) + " time(s), and with "
            + bay.veer(boat, 12) + " out it would not");

        // refusals are numbers, too, and change nothing
        System.out.println("thirteen hours: " + bay.night(13, boat, 1));
        System.out.println("no such boat: " + bay.night(12, 5, 1));
        System.out.println("a boat of no kind there is: " + (bay.boat(6, 0, 0, 1) == AnchorThatDrags.BAD));
        System.out.println("turns of no such boat: " + (bay.turns(5, 12) == AnchorThatDrags.NO));
        bay.feed(5, 'p', 'u', 'l', 'l', '$');
        int fault = bay.text();
        System.out.println("a text with a fault: " + fault + ", at place " + (-100 - fault));
    }
}
