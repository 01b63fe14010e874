/** All that a club answers to questions, as one text: two clubs that stand alike tell the same. */
final class Standing {
    private Standing() {
    }

    static String of(BuildingClub club) {
        return withoutTape(club) + " tape " + club.count(7);
    }

    static String withoutTape(BuildingClub club) {
        StringBuilder text = new StringBuilder("count");
        for (int what = 0; what <= 6; what++) {
            text.append(' ').append(club.count(what));
        }
        text.append(" club");
        for (int what = 0; what <= 7; what++) {
            text.append(' ').append(club.club(what));
        }
        text.append(" rules");
        for (char letter : "srfhgblq".toCharArray()) {
            text.append(' ').append(club.rule(letter));
        }
        for (int m = 0; m < club.count(0); m++) {
            text.append(" member ").append(m);
            for (int what = 1; what <= 12; what++) {
                text.append(' ').append(club.look(m, what));
            }
        }
        return text.append(" end ").append(club.end()).append(beside(club)).toString();
    }

    /** Of the last vote alone: an object is used for no more than 512 calls. */
    private static String beside(BuildingClub club) {
        int vote = club.count(5) - 1;
        StringBuilder text = new StringBuilder(" beside ").append(vote);
        for (int what = 0; what <= 2; what++) {
            text.append(' ').append(club.beside(vote, what));
        }
        return text.append(' ').append(club.beside(vote, 10)).toString();
    }
}
